theorem dX6_takeSign_0 : decode cX6_takeSign 0 = .ok (.aload_n 0, 1) := by decide +kernel
theorem dX6_takeSign_1 : decode cX6_takeSign 1 = .ok (.getfield 9, 3) := by decide +kernel
theorem dX6_takeSign_4 : decode cX6_takeSign 4 = .ok (.invokevirtual 59, 3) := by decide +kernel
theorem dX6_takeSign_7 : decode cX6_takeSign 7 = .ok (.istore_n 1, 1) := by decide +kernel
theorem dX6_takeSign_8 : decode cX6_takeSign 8 = .ok (.iload_n 1, 1) := by decide +kernel
theorem dX6_takeSign_9 : decode cX6_takeSign 9 = .ok (.bipush 12, 2) := by decide +kernel
theorem dX6_takeSign_11 : decode cX6_takeSign 11 = .ok (.if_icmp .lt 9, 3) := by decide +kernel
theorem dX6_takeSign_14 : decode cX6_takeSign 14 = .ok (.iload_n 1, 1) := by decide +kernel
theorem dX6_takeSign_15 : decode cX6_takeSign 15 = .ok (.bipush 16, 2) := by decide +kernel
theorem dX6_takeSign_17 : decode cX6_takeSign 17 = .ok (.if_icmp .le 14, 3) := by decide +kernel
theorem dX6_takeSign_20 : decode cX6_takeSign 20 = .ok (.aload_n 0, 1) := by decide +kernel
theorem dX6_takeSign_21 : decode cX6_takeSign 21 = .ok (.getfield 9, 3) := by decide +kernel
theorem dX6_takeSign_24 : decode cX6_takeSign 24 = .ok (.iconst 0, 1) := by decide +kernel
theorem dX6_takeSign_25 : decode cX6_takeSign 25 = .ok (.invokevirtual 63, 3) := by decide +kernel
theorem dX6_takeSign_28 : decode cX6_takeSign 28 = .ok (.goto 7, 3) := by decide +kernel
theorem dX6_takeSign_31 : decode cX6_takeSign 31 = .ok (.aload_n 0, 1) := by decide +kernel
theorem dX6_takeSign_32 : decode cX6_takeSign 32 = .ok (.invokevirtual 78, 3) := by decide +kernel
theorem dX6_takeSign_35 : decode cX6_takeSign 35 = .ok (.iload_n 1, 1) := by decide +kernel
theorem dX6_takeSign_36 : decode cX6_takeSign 36 = .ok (.ireturn, 1) := by decide +kernel
def Rr_takeSign (N : Nat) (M : jMem) : Option (Int × jMem) := jchk (M 12 0 = 2) <| (To_looked N M).bind fun r2 => jlt (fun (_ : Unit) => jchk (M 12 0 = 2) <| jbv (To_fail N 0 M) fun M4 => some (r2, M4)) fun j20 => (if r2 < 12 then j20 () else (if 16 < r2 then j20 () else jbv (Rr_takeCounted N M) fun M5 => some (r2, M5)))
theorem c_Rr_takeSign {l : Launch} {g : jG} (N : Nat) (M : jMem)  : ∀ o, Rr_takeSign N  M = some o → jCt l g jTX yX6_takeSign cX6_takeSign 2 (some .int) 0 5 [(2, 12)] M o := by
  refine jMet (own := RX6) (em := id) (L := [(0, 2, 12)]) (by decide +kernel) rfl (Nat.le_of_ble_eq_true rfl) rfl (fun K hR => ?_)
  unfold Rr_takeSign
  refine z_aload_n (pc := 0) hR 0 dX6_takeSign_0 rfl rfl ?_
  refine z_getm (pc := 1) hR (j := 0) jf_RX6_9 kxo_12 (by decide) rfl rfl dX6_takeSign_1 ?_
  refine z_chk (fun hc1 => ?_)
  refine z_cast hc1 ?_
  refine z_callvp (pc := 4) hR (As := []) (st := []) jm_X8_looked jl_RX6_59 kxo_2 (by decide) rfl (by decide) (c_To_looked N M) rfl (by decide) (by decide) rfl (Nat.le_of_ble_eq_true rfl) dX6_takeSign_4 (fun r2 => ?_)
  refine z_istore_n (pc := 7) hR (lv' := [(1, 0, r2), (0, 2, 12)]) dX6_takeSign_7 rfl (by decide) rfl ?_
  refine z_iload_n (pc := 8) hR 0 dX6_takeSign_8 rfl rfl ?_
  refine z_bipush (pc := 9) hR dX6_takeSign_9 rfl ?_
  refine z_join (P := fun j => ∀ (_ : Unit), jZ K id 20 [(0, 2, 12), (1, 0, r2)] [] M (j ())) (fun _ => ?_) (fun j20 hj20 => ?_)
  · refine z_aload_n (pc := 20) hR 0 dX6_takeSign_20 rfl rfl ?_
    refine z_getm (pc := 21) hR (j := 0) jf_RX6_9 kxo_12 (by decide) rfl rfl dX6_takeSign_21 ?_
    refine z_chk (fun hc3 => ?_)
    refine z_cast hc3 ?_
    refine z_iconst (pc := 24) hR dX6_takeSign_24 rfl ?_
    refine z_callv0 (pc := 25) (rk' := 3) hR (As := [(0, 0)]) (st := []) jm_X8_fail jl_RX6_63 kxo_2 (by decide) rfl (c_To_fail N 0 M) rfl (by decide) (by decide) rfl (Nat.le_of_ble_eq_true rfl) dX6_takeSign_25 (fun M4 => ?_)
    refine z_goto (pc := 28) (tgt := 35) hR dX6_takeSign_28 (by decide) ?_
    refine z_iload_n (pc := 35) hR 1 dX6_takeSign_35 rfl rfl ?_
    exact z_ireturn (pc := 36) hR rfl rfl dX6_takeSign_36 rfl
  refine z_icmplt (pc := 11) (tgt := 20) hR dX6_takeSign_11 (by decide) ?_ ?_
  · refine z_pick (pc := 20) (lv' := [(0, 2, 12), (1, 0, r2)]) hR [1, 0] rfl ?_
    exact hj20 ()
  · refine z_iload_n (pc := 14) hR 0 dX6_takeSign_14 rfl rfl ?_
    refine z_bipush (pc := 15) hR dX6_takeSign_15 rfl ?_
    refine z_icmple (pc := 17) (tgt := 31) hR dX6_takeSign_17 (by decide) ?_ ?_
    · refine z_aload_n (pc := 31) hR 1 dX6_takeSign_31 rfl rfl ?_
      refine z_callv0 (pc := 32) (rk' := 3) hR (As := []) (st := []) jm_X6_takeCounted jl_RX6_78 kxo_12 (by decide) rfl (c_Rr_takeCounted N M) rfl (by decide) (by decide) rfl (Nat.le_of_ble_eq_true rfl) dX6_takeSign_32 (fun M5 => ?_)
      refine z_iload_n (pc := 35) hR 0 dX6_takeSign_35 rfl rfl ?_
      exact z_ireturn (pc := 36) hR rfl rfl dX6_takeSign_36 rfl
    · refine z_pick (pc := 20) (lv' := [(0, 2, 12), (1, 0, r2)]) hR [1, 0] rfl ?_
      exact hj20 ()
theorem dX6_readFact_0 : decode cX6_readFact 0 = .ok (.aload_n 0, 1) := by decide +kernel
theorem dX6_readFact_1 : decode cX6_readFact 1 = .ok (.getfield 9, 3) := by decide +kernel
theorem dX6_readFact_4 : decode cX6_readFact 4 = .ok (.invokevirtual 59, 3) := by decide +kernel
theorem dX6_readFact_7 : decode cX6_readFact 7 = .ok (.istore_n 2, 1) := by decide +kernel
theorem dX6_readFact_8 : decode cX6_readFact 8 = .ok (.iload_n 2, 1) := by decide +kernel
theorem dX6_readFact_9 : decode cX6_readFact 9 = .ok (.bipush 25, 2) := by decide +kernel
theorem dX6_readFact_11 : decode cX6_readFact 11 = .ok (.if_icmp .eq 32, 3) := by decide +kernel
theorem dX6_readFact_14 : decode cX6_readFact 14 = .ok (.iload_n 2, 1) := by decide +kernel
theorem dX6_readFact_15 : decode cX6_readFact 15 = .ok (.iconst 5, 1) := by decide +kernel
theorem dX6_readFact_16 : decode cX6_readFact 16 = .ok (.if_icmp .eq 27, 3) := by decide +kernel
theorem dX6_readFact_19 : decode cX6_readFact 19 = .ok (.aload_n 0, 1) := by decide +kernel
theorem dX6_readFact_20 : decode cX6_readFact 20 = .ok (.invokevirtual 35, 3) := by decide +kernel
theorem dX6_readFact_23 : decode cX6_readFact 23 = .ok (.aload_n 0, 1) := by decide +kernel
theorem dX6_readFact_24 : decode cX6_readFact 24 = .ok (.invokevirtual 75, 3) := by decide +kernel
theorem dX6_readFact_27 : decode cX6_readFact 27 = .ok (.istore_n 3, 1) := by decide +kernel
theorem dX6_readFact_28 : decode cX6_readFact 28 = .ok (.aload_n 0, 1) := by decide +kernel
theorem dX6_readFact_29 : decode cX6_readFact 29 = .ok (.invokevirtual 35, 3) := by decide +kernel
theorem dX6_readFact_32 : decode cX6_readFact 32 = .ok (.aload_n 0, 1) := by decide +kernel
theorem dX6_readFact_33 : decode cX6_readFact 33 = .ok (.getfield 15, 3) := by decide +kernel
theorem dX6_readFact_36 : decode cX6_readFact 36 = .ok (.iload_n 3, 1) := by decide +kernel
theorem dX6_readFact_37 : decode cX6_readFact 37 = .ok (.invokevirtual 72, 3) := by decide +kernel
theorem dX6_readFact_40 : decode cX6_readFact 40 = .ok (.goto 86, 3) := by decide +kernel
theorem dX6_readFact_43 : decode cX6_readFact 43 = .ok (.iload_n 1, 1) := by decide +kernel
theorem dX6_readFact_44 : decode cX6_readFact 44 = .ok (.bipush 10, 2) := by decide +kernel
theorem dX6_readFact_46 : decode cX6_readFact 46 = .ok (.if_icmp .lt 14, 3) := by decide +kernel
theorem dX6_readFact_49 : decode cX6_readFact 49 = .ok (.aload_n 0, 1) := by decide +kernel
theorem dX6_readFact_50 : decode cX6_readFact 50 = .ok (.getfield 9, 3) := by decide +kernel
theorem dX6_readFact_53 : decode cX6_readFact 53 = .ok (.iconst 2, 1) := by decide +kernel
theorem dX6_readFact_54 : decode cX6_readFact 54 = .ok (.invokevirtual 63, 3) := by decide +kernel
theorem dX6_readFact_57 : decode cX6_readFact 57 = .ok (.goto 69, 3) := by decide +kernel
theorem dX6_readFact_60 : decode cX6_readFact 60 = .ok (.iload_n 2, 1) := by decide +kernel
theorem dX6_readFact_61 : decode cX6_readFact 61 = .ok (.bipush 25, 2) := by decide +kernel
theorem dX6_readFact_63 : decode cX6_readFact 63 = .ok (.if_icmp .ne 29, 3) := by decide +kernel
theorem dX6_readFact_66 : decode cX6_readFact 66 = .ok (.aload_n 0, 1) := by decide +kernel
theorem dX6_readFact_67 : decode cX6_readFact 67 = .ok (.getfield 9, 3) := by decide +kernel
theorem dX6_readFact_70 : decode cX6_readFact 70 = .ok (.invokevirtual 66, 3) := by decide +kernel
theorem dX6_readFact_73 : decode cX6_readFact 73 = .ok (.aload_n 0, 1) := by decide +kernel
theorem dX6_readFact_74 : decode cX6_readFact 74 = .ok (.iload_n 1, 1) := by decide +kernel
theorem dX6_readFact_75 : decode cX6_readFact 75 = .ok (.iconst 1, 1) := by decide +kernel
theorem dX6_readFact_76 : decode cX6_readFact 76 = .ok (.iadd, 1) := by decide +kernel
theorem dX6_readFact_77 : decode cX6_readFact 77 = .ok (.invokevirtual 69, 3) := by decide +kernel
theorem dX6_readFact_80 : decode cX6_readFact 80 = .ok (.aload_n 0, 1) := by decide +kernel
theorem dX6_readFact_81 : decode cX6_readFact 81 = .ok (.getfield 15, 3) := by decide +kernel
theorem dX6_readFact_84 : decode cX6_readFact 84 = .ok (.bipush 25, 2) := by decide +kernel
theorem dX6_readFact_86 : decode cX6_readFact 86 = .ok (.invokevirtual 72, 3) := by decide +kernel
theorem dX6_readFact_89 : decode cX6_readFact 89 = .ok (.goto 37, 3) := by decide +kernel
theorem dX6_readFact_92 : decode cX6_readFact 92 = .ok (.aload_n 0, 1) := by decide +kernel
theorem dX6_readFact_93 : decode cX6_readFact 93 = .ok (.getfield 9, 3) := by decide +kernel
theorem dX6_readFact_96 : decode cX6_readFact 96 = .ok (.invokevirtual 66, 3) := by decide +kernel
theorem dX6_readFact_99 : decode cX6_readFact 99 = .ok (.aload_n 0, 1) := by decide +kernel
theorem dX6_readFact_100 : decode cX6_readFact 100 = .ok (.iload_n 1, 1) := by decide +kernel
theorem dX6_readFact_101 : decode cX6_readFact 101 = .ok (.iconst 1, 1) := by decide +kernel
theorem dX6_readFact_102 : decode cX6_readFact 102 = .ok (.iadd, 1) := by decide +kernel
theorem dX6_readFact_103 : decode cX6_readFact 103 = .ok (.invokevirtual 47, 3) := by decide +kernel
theorem dX6_readFact_106 : decode cX6_readFact 106 = .ok (.aload_n 0, 1) := by decide +kernel
theorem dX6_readFact_107 : decode cX6_readFact 107 = .ok (.getfield 9, 3) := by decide +kernel
theorem dX6_readFact_110 : decode cX6_readFact 110 = .ok (.bipush 6, 2) := by decide +kernel
theorem dX6_readFact_112 : decode cX6_readFact 112 = .ok (.invokevirtual 41, 3) := by decide +kernel
theorem dX6_readFact_115 : decode cX6_readFact 115 = .ok (.ifCond .ne 11, 3) := by decide +kernel
theorem dX6_readFact_118 : decode cX6_readFact 118 = .ok (.aload_n 0, 1) := by decide +kernel
theorem dX6_readFact_119 : decode cX6_readFact 119 = .ok (.getfield 9, 3) := by decide +kernel
theorem dX6_readFact_122 : decode cX6_readFact 122 = .ok (.iconst 0, 1) := by decide +kernel
theorem dX6_readFact_123 : decode cX6_readFact 123 = .ok (.invokevirtual 63, 3) := by decide +kernel
theorem dX6_readFact_126 : decode cX6_readFact 126 = .ok (.return_, 1) := by decide +kernel
def Rr_readFact_B (N : Nat) (rreadTest rreadFact : Int → jMem → Option (Int × jMem)) (a1 : Int) (M : jMem) : Option (Int × jMem) := jchk (M 12 0 = 2) <| (To_looked N M).bind fun r2 => jlt (fun (_ : Unit) => (if a1 < 10 then (if r2 = 25 then jchk (M 12 0 = 2) <| jbv (To_move N M) fun M12 => jbv (rreadFact ((w32 (a1 + 1))) M12) fun M13 => jchk (jkb jTX (M13 12 1) 5 = true) <| jbv (Ru_apply N ((M13 12 1)) 25 M13) fun M15 => some (0, M15) else jchk (M 12 0 = 2) <| jbv (To_move N M) fun M4 => jbv (rreadTest ((w32 (a1 + 1))) M4) fun M5 => jchk (M5 12 0 = 2) <| jb1 (To_takes N 6 M5) fun r7 M8 => (if r7 = 0 then jchk (M8 12 0 = 2) <| jbv (To_fail N 0 M8) fun M10 => some (0, M10) else some (0, M8))) else jchk (M 12 0 = 2) <| jbv (To_fail N 2 M) fun M17 => some (0, M17))) fun j43 => (if r2 = 25 then j43 () else (if r2 = 5 then j43 () else jbv (Rr_readSum N M) fun M18 => jb1 (Rr_takeSign N M18) fun r19 M20 => jbv (Rr_readSum N M20) fun M21 => jchk (jkb jTX (M21 12 1) 5 = true) <| jbv (Ru_apply N ((M21 12 1)) r19 M21) fun M23 => some (0, M23)))
theorem dX6_readTest_0 : decode cX6_readTest 0 = .ok (.aload_n 0, 1) := by decide +kernel
theorem dX6_readTest_1 : decode cX6_readTest 1 = .ok (.iload_n 1, 1) := by decide +kernel
theorem dX6_readTest_2 : decode cX6_readTest 2 = .ok (.invokevirtual 69, 3) := by decide +kernel
theorem dX6_readTest_5 : decode cX6_readTest 5 = .ok (.iconst 0, 1) := by decide +kernel
theorem dX6_readTest_6 : decode cX6_readTest 6 = .ok (.istore_n 2, 1) := by decide +kernel
theorem dX6_readTest_7 : decode cX6_readTest 7 = .ok (.aload_n 0, 1) := by decide +kernel
theorem dX6_readTest_8 : decode cX6_readTest 8 = .ok (.getfield 9, 3) := by decide +kernel
theorem dX6_readTest_11 : decode cX6_readTest 11 = .ok (.invokevirtual 59, 3) := by decide +kernel
theorem dX6_readTest_14 : decode cX6_readTest 14 = .ok (.istore_n 3, 1) := by decide +kernel
theorem dX6_readTest_15 : decode cX6_readTest 15 = .ok (.iconst 0, 1) := by decide +kernel
theorem dX6_readTest_16 : decode cX6_readTest 16 = .ok (.istore 4, 2) := by decide +kernel
theorem dX6_readTest_18 : decode cX6_readTest 18 = .ok (.iload 4, 2) := by decide +kernel
theorem dX6_readTest_20 : decode cX6_readTest 20 = .ok (.sipush 400, 3) := by decide +kernel
theorem dX6_readTest_23 : decode cX6_readTest 23 = .ok (.if_icmp .ge 80, 3) := by decide +kernel
theorem dX6_readTest_26 : decode cX6_readTest 26 = .ok (.iload_n 3, 1) := by decide +kernel
theorem dX6_readTest_27 : decode cX6_readTest 27 = .ok (.bipush 24, 2) := by decide +kernel
theorem dX6_readTest_29 : decode cX6_readTest 29 = .ok (.if_icmp .eq 9, 3) := by decide +kernel
theorem dX6_readTest_32 : decode cX6_readTest 32 = .ok (.iload_n 3, 1) := by decide +kernel
theorem dX6_readTest_33 : decode cX6_readTest 33 = .ok (.bipush 23, 2) := by decide +kernel
theorem dX6_readTest_35 : decode cX6_readTest 35 = .ok (.if_icmp .ne 68, 3) := by decide +kernel
theorem dX6_readTest_38 : decode cX6_readTest 38 = .ok (.iload_n 3, 1) := by decide +kernel
theorem dX6_readTest_39 : decode cX6_readTest 39 = .ok (.bipush 23, 2) := by decide +kernel
theorem dX6_readTest_41 : decode cX6_readTest 41 = .ok (.if_icmp .ne 16, 3) := by decide +kernel
theorem dX6_readTest_44 : decode cX6_readTest 44 = .ok (.iload_n 2, 1) := by decide +kernel
theorem dX6_readTest_45 : decode cX6_readTest 45 = .ok (.ifCond .eq 12, 3) := by decide +kernel
theorem dX6_readTest_48 : decode cX6_readTest 48 = .ok (.aload_n 0, 1) := by decide +kernel
theorem dX6_readTest_49 : decode cX6_readTest 49 = .ok (.getfield 15, 3) := by decide +kernel
theorem dX6_readTest_52 : decode cX6_readTest 52 = .ok (.bipush 23, 2) := by decide +kernel
theorem dX6_readTest_54 : decode cX6_readTest 54 = .ok (.invokevirtual 72, 3) := by decide +kernel
theorem dX6_readTest_57 : decode cX6_readTest 57 = .ok (.aload_n 0, 1) := by decide +kernel
theorem dX6_readTest_58 : decode cX6_readTest 58 = .ok (.getfield 9, 3) := by decide +kernel
theorem dX6_readTest_61 : decode cX6_readTest 61 = .ok (.invokevirtual 66, 3) := by decide +kernel
theorem dX6_readTest_64 : decode cX6_readTest 64 = .ok (.aload_n 0, 1) := by decide +kernel
theorem dX6_readTest_65 : decode cX6_readTest 65 = .ok (.iload_n 1, 1) := by decide +kernel
theorem dX6_readTest_66 : decode cX6_readTest 66 = .ok (.invokevirtual 69, 3) := by decide +kernel
theorem dX6_readTest_69 : decode cX6_readTest 69 = .ok (.iload_n 3, 1) := by decide +kernel
theorem dX6_readTest_70 : decode cX6_readTest 70 = .ok (.bipush 23, 2) := by decide +kernel
theorem dX6_readTest_72 : decode cX6_readTest 72 = .ok (.if_icmp .ne 8, 3) := by decide +kernel
theorem dX6_readTest_75 : decode cX6_readTest 75 = .ok (.iconst 1, 1) := by decide +kernel
theorem dX6_readTest_76 : decode cX6_readTest 76 = .ok (.istore_n 2, 1) := by decide +kernel
theorem dX6_readTest_77 : decode cX6_readTest 77 = .ok (.goto 12, 3) := by decide +kernel
theorem dX6_readTest_80 : decode cX6_readTest 80 = .ok (.aload_n 0, 1) := by decide +kernel
theorem dX6_readTest_81 : decode cX6_readTest 81 = .ok (.getfield 15, 3) := by decide +kernel
theorem dX6_readTest_84 : decode cX6_readTest 84 = .ok (.bipush 24, 2) := by decide +kernel
theorem dX6_readTest_86 : decode cX6_readTest 86 = .ok (.invokevirtual 72, 3) := by decide +kernel
theorem dX6_readTest_89 : decode cX6_readTest 89 = .ok (.aload_n 0, 1) := by decide +kernel
theorem dX6_readTest_90 : decode cX6_readTest 90 = .ok (.getfield 9, 3) := by decide +kernel
theorem dX6_readTest_93 : decode cX6_readTest 93 = .ok (.invokevirtual 59, 3) := by decide +kernel
theorem dX6_readTest_96 : decode cX6_readTest 96 = .ok (.istore_n 3, 1) := by decide +kernel
theorem dX6_readTest_97 : decode cX6_readTest 97 = .ok (.iinc 4 1, 3) := by decide +kernel
theorem dX6_readTest_100 : decode cX6_readTest 100 = .ok (.goto (-82), 3) := by decide +kernel
theorem dX6_readTest_103 : decode cX6_readTest 103 = .ok (.iload_n 2, 1) := by decide +kernel
theorem dX6_readTest_104 : decode cX6_readTest 104 = .ok (.ifCond .eq 12, 3) := by decide +kernel
theorem dX6_readTest_107 : decode cX6_readTest 107 = .ok (.aload_n 0, 1) := by decide +kernel
theorem dX6_readTest_108 : decode cX6_readTest 108 = .ok (.getfield 15, 3) := by decide +kernel
theorem dX6_readTest_111 : decode cX6_readTest 111 = .ok (.bipush 23, 2) := by decide +kernel
theorem dX6_readTest_113 : decode cX6_readTest 113 = .ok (.invokevirtual 72, 3) := by decide +kernel
theorem dX6_readTest_116 : decode cX6_readTest 116 = .ok (.return_, 1) := by decide +kernel
def Rr_readTest_L18 (N : Nat) (rreadTest rreadFact : Int → jMem → Option (Int × jMem)) (a1 : Int) (h18 : (Int × Int × Int × jMem) → Option (Int × jMem)) : Int × Int × Int × jMem → Option (Int × jMem)
  | (x4, x5, x6, M7) => jlt (fun (_ : Unit) => (if x4 = 0 then some (0, M7) else jchk (jkb jTX (M7 12 1) 5 = true) <| jbv (Ru_apply N ((M7 12 1)) 23 M7) fun M9 => some (0, M9))) fun j103 => (if x6 < 400 then jlt (fun (_ : Unit) => jlt (fun (M10 : jMem) => jchk (M10 12 0 = 2) <| jbv (To_move N M10) fun M12 => jbv (rreadFact a1 M12) fun M13 => jlt (fun (u14 : Int) (M15 : jMem) => jchk (M15 12 0 = 2) <| (To_looked N M15).bind fun r17 => h18 (u14, r17, (w32 (x6 + 1)), M15)) fun j89 => (if x5 = 23 then j89 1 M13 else jchk (jkb jTX (M13 12 1) 5 = true) <| jbv (Ru_apply N ((M13 12 1)) 24 M13) fun M19 => j89 x4 M19)) fun j57 => (if x5 = 23 then (if x4 = 0 then j57 M7 else jchk (jkb jTX (M7 12 1) 5 = true) <| jbv (Ru_apply N ((M7 12 1)) 23 M7) fun M21 => j57 M21) else j57 M7)) fun j38 => (if x5 = 24 then j38 () else (if x5 = 23 then j38 () else j103 ())) else j103 ())
def Rr_readTest_B (N : Nat) (rreadTest rreadFact : Int → jMem → Option (Int × jMem)) (a1 : Int) (M : jMem) : Option (Int × jMem) := jbv (rreadFact a1 M) fun M1 => jchk (M1 12 0 = 2) <| (To_looked N M1).bind fun r3 => jfix N (Rr_readTest_L18 N rreadTest rreadFact a1) (0, r3, 0, M1)
def Rr_rr (N : Nat) : Nat → Nat → Int → jMem → Option (Int × jMem)
  | 0, _, _, _ => none
  | n + 1, 0, a, M => Rr_readTest_B N (Rr_rr N n 0) (Rr_rr N n 1) a M
  | n + 1, _ + 1, a, M => Rr_readFact_B N (Rr_rr N n 0) (Rr_rr N n 1) a M
def Rr_readTest (N n : Nat) (a1 : Int) (M : jMem) : Option (Int × jMem) := Rr_rr N n 0 a1 M
def Rr_readFact (N n : Nat) (a1 : Int) (M : jMem) : Option (Int × jMem) := Rr_rr N n 1 a1 M
theorem c_Rr_rr {l : Launch} {g : jG} (N : Nat) : ∀ (n : Nat) (a1 : Int) (M : jMem), (∀ o, Rr_rr N n 0 a1 M = some o → jCt l g jTX yX6_readTest cX6_readTest 5 none 3 (12 + n) [(2, 12), (0, a1)] M o) ∧ (∀ o, Rr_rr N n 1 a1 M = some o → jCt l g jTX yX6_readFact cX6_readFact 4 none 3 (12 + n) [(2, 12), (0, a1)] M o) := by
  intro n
  induction n with
  | zero => intro a1 M; exact ⟨(fun o h => by cases h), (fun o h => by cases h)⟩
  | succ n ih =>
  intro a1 M
  have hreadTest : ∀ (a1 : Int) (M : jMem), ∀ o, Rr_rr N n 0 a1 M = some o → jCt l g jTX yX6_readTest cX6_readTest 5 none 3 (12 + n) [(2, 12), (0, a1)] M o := fun a1 M => (ih a1 M).1
  have hreadFact : ∀ (a1 : Int) (M : jMem), ∀ o, Rr_rr N n 1 a1 M = some o → jCt l g jTX yX6_readFact cX6_readFact 4 none 3 (12 + n) [(2, 12), (0, a1)] M o := fun a1 M => (ih a1 M).2
  constructor
  · refine jMet (own := RX6) (em := id) (t := Rr_readTest_B N (Rr_rr N n 0) (Rr_rr N n 1) a1 M) (L := [(0, 2, 12), (1, 0, a1)]) (by decide +kernel) rfl (Nat.le_of_ble_eq_true rfl) rfl (fun K hR => ?_)
    unfold Rr_readTest_B
    refine z_aload_n (pc := 0) hR 0 dX6_readTest_0 rfl rfl ?_
    refine z_iload_n (pc := 1) hR 1 dX6_readTest_1 rfl rfl ?_
    refine z_callv0 (pc := 2) (rk' := 3) hR (As := [(0, a1)]) (st := []) jm_X6_readFact jl_RX6_69 kxo_12 (by decide) rfl (hreadFact a1 M) rfl (by omega) (by decide) rfl (Nat.le_of_ble_eq_true rfl) dX6_readTest_2 (fun M1 => ?_)
    refine z_iconst (pc := 5) hR dX6_readTest_5 rfl ?_
    refine z_istore_n (pc := 6) hR (lv' := [(2, 0, 0), (0, 2, 12), (1, 0, a1)]) dX6_readTest_6 rfl (by decide) rfl ?_
    refine z_aload_n (pc := 7) hR 1 dX6_readTest_7 rfl rfl ?_
    refine z_getm (pc := 8) hR (j := 0) jf_RX6_9 kxo_12 (by decide) rfl rfl dX6_readTest_8 ?_
    refine z_chk (fun hc2 => ?_)
    refine z_cast hc2 ?_
    refine z_callvp (pc := 11) hR (As := []) (st := []) jm_X8_looked jl_RX6_59 kxo_2 (by decide) rfl (by decide) (c_To_looked N M1) rfl (by omega) (by decide) rfl (Nat.le_of_ble_eq_true rfl) dX6_readTest_11 (fun r3 => ?_)
    refine z_istore_n (pc := 14) hR (lv' := [(3, 0, r3), (2, 0, 0), (0, 2, 12), (1, 0, a1)]) dX6_readTest_14 rfl (by decide) rfl ?_
    refine z_iconst (pc := 15) hR dX6_readTest_15 rfl ?_
    refine z_istore (pc := 16) hR (lv' := [(4, 0, 0), (3, 0, r3), (2, 0, 0), (0, 2, 12), (1, 0, a1)]) dX6_readTest_16 (by decide) rfl ?_
    refine z_pick (pc := 18) (lv' := [(0, 2, 12), (1, 0, a1), (2, 0, 0), (3, 0, r3), (4, 0, 0)]) hR [3, 4, 2, 1, 0] rfl ?_
    refine z_fix (σ := Int × Int × Int × jMem) (lv := fun s => [(0, 2, 12), (1, 0, a1), (2, 0, s.1), (3, 0, s.2.1), (4, 0, s.2.2.1)]) (st := fun _ => []) (M := fun s => s.2.2.2) (fun h18 hh18 => ?_) N (0, r3, 0, M1)
    rintro ⟨x4, x5, x6, M7⟩
    show jZ K id 18 [(0, 2, 12), (1, 0, a1), (2, 0, x4), (3, 0, x5), (4, 0, x6)] [] M7 _
    unfold Rr_readTest_L18
    refine z_iload (pc := 18) hR 4 dX6_readTest_18 rfl ?_
    refine z_sipush (pc := 20) hR dX6_readTest_20 rfl ?_
    refine z_join (P := fun j => ∀ (_ : Unit), jZ K id 103 [(0, 2, 12), (2, 0, x4)] [] M7 (j ())) (fun _ => ?_) (fun j103 hj103 => ?_)
    · refine z_iload_n (pc := 103) hR 1 dX6_readTest_103 rfl rfl ?_
      refine z_ifeq (pc := 104) (tgt := 116) hR dX6_readTest_104 (by decide) ?_ ?_
      · exact z_return (x := 0) (pc := 116) hR rfl rfl dX6_readTest_116 rfl
      · refine z_aload_n (pc := 107) hR 0 dX6_readTest_107 rfl rfl ?_
        refine z_getm (pc := 108) hR (j := 1) jf_RX6_15 kxo_12 (by decide) rfl rfl dX6_readTest_108 ?_
        refine z_chk (fun hc8 => ?_)
        refine z_bipush (pc := 111) hR dX6_readTest_111 rfl ?_
        refine z_callv0 (pc := 113) (rk' := 3) hR (As := [(0, 23)]) (st := []) jm_X5_apply jl_RX6_72 (jkb_ok hc8) (by decide) rfl (c_Ru_apply N ((M7 12 1)) 23 M7 (jkb_ok hc8)) rfl (by omega) (by decide) rfl (Nat.le_of_ble_eq_true rfl) dX6_readTest_113 (fun M9 => ?_)
        exact z_return (x := 0) (pc := 116) hR rfl rfl dX6_readTest_116 rfl
    refine z_icmpge (pc := 23) (tgt := 103) hR dX6_readTest_23 (by decide) ?_ ?_
    · refine z_pick (pc := 103) (lv' := [(0, 2, 12), (2, 0, x4)]) hR [0, 2] rfl ?_
      exact hj103 ()
    · refine z_iload_n (pc := 26) hR 3 dX6_readTest_26 rfl rfl ?_
      refine z_bipush (pc := 27) hR dX6_readTest_27 rfl ?_
      refine z_join (P := fun j => ∀ (_ : Unit), jZ K id 38 [(0, 2, 12), (1, 0, a1), (2, 0, x4), (3, 0, x5), (4, 0, x6)] [] M7 (j ())) (fun _ => ?_) (fun j38 hj38 => ?_)
      · refine z_iload_n (pc := 38) hR 3 dX6_readTest_38 rfl rfl ?_
        refine z_bipush (pc := 39) hR dX6_readTest_39 rfl ?_
        refine z_join (P := fun j => ∀ (M10 : jMem), jZ K id 57 [(0, 2, 12), (1, 0, a1), (2, 0, x4), (3, 0, x5), (4, 0, x6)] [] M10 (j M10)) (fun M10 => ?_) (fun j57 hj57 => ?_)
        · refine z_aload_n (pc := 57) hR 0 dX6_readTest_57 rfl rfl ?_
          refine z_getm (pc := 58) hR (j := 0) jf_RX6_9 kxo_12 (by decide) rfl rfl dX6_readTest_58 ?_
          refine z_chk (fun hc11 => ?_)
          refine z_cast hc11 ?_
          refine z_callv0 (pc := 61) (rk' := 3) hR (As := []) (st := []) jm_X8_move jl_RX6_66 kxo_2 (by decide) rfl (c_To_move N M10) rfl (by omega) (by decide) rfl (Nat.le_of_ble_eq_true rfl) dX6_readTest_61 (fun M12 => ?_)
          refine z_aload_n (pc := 64) hR 0 dX6_readTest_64 rfl rfl ?_
          refine z_iload_n (pc := 65) hR 1 dX6_readTest_65 rfl rfl ?_
          refine z_callv0 (pc := 66) (rk' := 3) hR (As := [(0, a1)]) (st := []) jm_X6_readFact jl_RX6_69 kxo_12 (by decide) rfl (hreadFact a1 M12) rfl (by omega) (by decide) rfl (Nat.le_of_ble_eq_true rfl) dX6_readTest_66 (fun M13 => ?_)
          refine z_iload_n (pc := 69) hR 3 dX6_readTest_69 rfl rfl ?_
          refine z_bipush (pc := 70) hR dX6_readTest_70 rfl ?_
          refine z_join (P := fun j => ∀ (u14 : Int) (M15 : jMem), jZ K id 89 [(0, 2, 12), (1, 0, a1), (2, 0, u14), (4, 0, x6)] [] M15 (j u14 M15)) (fun u14 M15 => ?_) (fun j89 hj89 => ?_)
          · refine z_aload_n (pc := 89) hR 0 dX6_readTest_89 rfl rfl ?_
            refine z_getm (pc := 90) hR (j := 0) jf_RX6_9 kxo_12 (by decide) rfl rfl dX6_readTest_90 ?_
            refine z_chk (fun hc16 => ?_)
            refine z_cast hc16 ?_
            refine z_callvp (pc := 93) hR (As := []) (st := []) jm_X8_looked jl_RX6_59 kxo_2 (by decide) rfl (by decide) (c_To_looked N M15) rfl (by omega) (by decide) rfl (Nat.le_of_ble_eq_true rfl) dX6_readTest_93 (fun r17 => ?_)
            refine z_istore_n (pc := 96) hR (lv' := [(3, 0, r17), (0, 2, 12), (1, 0, a1), (2, 0, u14), (4, 0, x6)]) dX6_readTest_96 rfl (by decide) rfl ?_
            refine z_iinc (pc := 97) hR (j := 4) (lv' := [(4, 0, (w32 (x6 + 1))), (3, 0, r17), (0, 2, 12), (1, 0, a1), (2, 0, u14)]) dX6_readTest_97 rfl (by decide) rfl ?_
            refine z_goto (pc := 100) (tgt := 18) hR dX6_readTest_100 (by decide) ?_
            refine z_pick (pc := 18) (lv' := [(0, 2, 12), (1, 0, a1), (2, 0, u14), (3, 0, r17), (4, 0, (w32 (x6 + 1)))]) hR [2, 3, 4, 1, 0] rfl ?_
            exact hh18 (u14, r17, (w32 (x6 + 1)), M15)
          refine z_icmpne (pc := 72) (tgt := 80) hR dX6_readTest_72 (by decide) ?_ ?_
          · refine z_aload_n (pc := 80) hR 0 dX6_readTest_80 rfl rfl ?_
            refine z_getm (pc := 81) hR (j := 1) jf_RX6_15 kxo_12 (by decide) rfl rfl dX6_readTest_81 ?_
            refine z_chk (fun hc18 => ?_)
            refine z_bipush (pc := 84) hR dX6_readTest_84 rfl ?_
            refine z_callv0 (pc := 86) (rk' := 3) hR (As := [(0, 24)]) (st := []) jm_X5_apply jl_RX6_72 (jkb_ok hc18) (by decide) rfl (c_Ru_apply N ((M13 12 1)) 24 M13 (jkb_ok hc18)) rfl (by omega) (by decide) rfl (Nat.le_of_ble_eq_true rfl) dX6_readTest_86 (fun M19 => ?_)
            refine z_pick (pc := 89) (lv' := [(0, 2, 12), (1, 0, a1), (2, 0, x4), (4, 0, x6)]) hR [0, 1, 2, 4] rfl ?_
            exact hj89 x4 M19
          · refine z_iconst (pc := 75) hR dX6_readTest_75 rfl ?_
            refine z_istore_n (pc := 76) hR (lv' := [(2, 0, 1), (0, 2, 12), (1, 0, a1), (3, 0, x5), (4, 0, x6)]) dX6_readTest_76 rfl (by decide) rfl ?_
            refine z_goto (pc := 77) (tgt := 89) hR dX6_readTest_77 (by decide) ?_
            refine z_pick (pc := 89) (lv' := [(0, 2, 12), (1, 0, a1), (2, 0, 1), (4, 0, x6)]) hR [1, 2, 0, 4] rfl ?_
            exact hj89 1 M13
        refine z_icmpne (pc := 41) (tgt := 57) hR dX6_readTest_41 (by decide) ?_ ?_
        · exact hj57 M7
        · refine z_iload_n (pc := 44) hR 2 dX6_readTest_44 rfl rfl ?_
          refine z_ifeq (pc := 45) (tgt := 57) hR dX6_readTest_45 (by decide) ?_ ?_
          · exact hj57 M7
          · refine z_aload_n (pc := 48) hR 0 dX6_readTest_48 rfl rfl ?_
            refine z_getm (pc := 49) hR (j := 1) jf_RX6_15 kxo_12 (by decide) rfl rfl dX6_readTest_49 ?_
            refine z_chk (fun hc20 => ?_)
            refine z_bipush (pc := 52) hR dX6_readTest_52 rfl ?_
            refine z_callv0 (pc := 54) (rk' := 3) hR (As := [(0, 23)]) (st := []) jm_X5_apply jl_RX6_72 (jkb_ok hc20) (by decide) rfl (c_Ru_apply N ((M7 12 1)) 23 M7 (jkb_ok hc20)) rfl (by omega) (by decide) rfl (Nat.le_of_ble_eq_true rfl) dX6_readTest_54 (fun M21 => ?_)
            exact hj57 M21
      refine z_icmpeq (pc := 29) (tgt := 38) hR dX6_readTest_29 (by decide) ?_ ?_
      · exact hj38 ()
      · refine z_iload_n (pc := 32) hR 3 dX6_readTest_32 rfl rfl ?_
        refine z_bipush (pc := 33) hR dX6_readTest_33 rfl ?_
        refine z_icmpne (pc := 35) (tgt := 103) hR dX6_readTest_35 (by decide) ?_ ?_
        · refine z_pick (pc := 103) (lv' := [(0, 2, 12), (2, 0, x4)]) hR [0, 2] rfl ?_
          exact hj103 ()
        · exact hj38 ()
  · refine jMet (own := RX6) (em := id) (t := Rr_readFact_B N (Rr_rr N n 0) (Rr_rr N n 1) a1 M) (L := [(0, 2, 12), (1, 0, a1)]) (by decide +kernel) rfl (Nat.le_of_ble_eq_true rfl) rfl (fun K hR => ?_)
    unfold Rr_readFact_B
    refine z_aload_n (pc := 0) hR 0 dX6_readFact_0 rfl rfl ?_
    refine z_getm (pc := 1) hR (j := 0) jf_RX6_9 kxo_12 (by decide) rfl rfl dX6_readFact_1 ?_
    refine z_chk (fun hc1 => ?_)
    refine z_cast hc1 ?_
    refine z_callvp (pc := 4) hR (As := []) (st := []) jm_X8_looked jl_RX6_59 kxo_2 (by decide) rfl (by decide) (c_To_looked N M) rfl (by omega) (by decide) rfl (Nat.le_of_ble_eq_true rfl) dX6_readFact_4 (fun r2 => ?_)
    refine z_istore_n (pc := 7) hR (lv' := [(2, 0, r2), (0, 2, 12), (1, 0, a1)]) dX6_readFact_7 rfl (by decide) rfl ?_
    refine z_iload_n (pc := 8) hR 0 dX6_readFact_8 rfl rfl ?_
    refine z_bipush (pc := 9) hR dX6_readFact_9 rfl ?_
    refine z_join (P := fun j => ∀ (_ : Unit), jZ K id 43 [(0, 2, 12), (1, 0, a1), (2, 0, r2)] [] M (j ())) (fun _ => ?_) (fun j43 hj43 => ?_)
    · refine z_iload_n (pc := 43) hR 1 dX6_readFact_43 rfl rfl ?_
      refine z_bipush (pc := 44) hR dX6_readFact_44 rfl ?_
      refine z_icmplt (pc := 46) (tgt := 60) hR dX6_readFact_46 (by decide) ?_ ?_
      · refine z_iload_n (pc := 60) hR 2 dX6_readFact_60 rfl rfl ?_
        refine z_bipush (pc := 61) hR dX6_readFact_61 rfl ?_
        refine z_icmpne (pc := 63) (tgt := 92) hR dX6_readFact_63 (by decide) ?_ ?_
        · refine z_aload_n (pc := 92) hR 0 dX6_readFact_92 rfl rfl ?_
          refine z_getm (pc := 93) hR (j := 0) jf_RX6_9 kxo_12 (by decide) rfl rfl dX6_readFact_93 ?_
          refine z_chk (fun hc3 => ?_)
          refine z_cast hc3 ?_
          refine z_callv0 (pc := 96) (rk' := 3) hR (As := []) (st := []) jm_X8_move jl_RX6_66 kxo_2 (by decide) rfl (c_To_move N M) rfl (by omega) (by decide) rfl (Nat.le_of_ble_eq_true rfl) dX6_readFact_96 (fun M4 => ?_)
          refine z_aload_n (pc := 99) hR 0 dX6_readFact_99 rfl rfl ?_
          refine z_iload_n (pc := 100) hR 1 dX6_readFact_100 rfl rfl ?_
          refine z_iconst (pc := 101) hR dX6_readFact_101 rfl ?_
          refine z_iadd (pc := 102) hR dX6_readFact_102 ?_
          refine z_callv0 (pc := 103) (rk' := 3) hR (As := [(0, (w32 (a1 + 1)))]) (st := []) jm_X6_readTest jl_RX6_47 kxo_12 (by decide) rfl (hreadTest ((w32 (a1 + 1))) M4) rfl (by omega) (by decide) rfl (Nat.le_of_ble_eq_true rfl) dX6_readFact_103 (fun M5 => ?_)
          refine z_aload_n (pc := 106) hR 0 dX6_readFact_106 rfl rfl ?_
          refine z_getm (pc := 107) hR (j := 0) jf_RX6_9 kxo_12 (by decide) rfl rfl dX6_readFact_107 ?_
          refine z_chk (fun hc6 => ?_)
          refine z_cast hc6 ?_
          refine z_bipush (pc := 110) hR dX6_readFact_110 rfl ?_
          refine z_callv1 (pc := 112) hR (As := [(0, 6)]) (st := []) jm_X8_takes jl_RX6_41 kxo_2 (by decide) rfl (by decide) (c_To_takes N 6 M5) rfl (by omega) (by decide) rfl (Nat.le_of_ble_eq_true rfl) dX6_readFact_112 (fun r7 M8 => ?_)
          refine z_ifne (pc := 115) (tgt := 126) hR dX6_readFact_115 (by decide) ?_ ?_
          · exact z_return (x := 0) (pc := 126) hR rfl rfl dX6_readFact_126 rfl
          · refine z_aload_n (pc := 118) hR 0 dX6_readFact_118 rfl rfl ?_
            refine z_getm (pc := 119) hR (j := 0) jf_RX6_9 kxo_12 (by decide) rfl rfl dX6_readFact_119 ?_
            refine z_chk (fun hc9 => ?_)
            refine z_cast hc9 ?_
            refine z_iconst (pc := 122) hR dX6_readFact_122 rfl ?_
            refine z_callv0 (pc := 123) (rk' := 3) hR (As := [(0, 0)]) (st := []) jm_X8_fail jl_RX6_63 kxo_2 (by decide) rfl (c_To_fail N 0 M8) rfl (by omega) (by decide) rfl (Nat.le_of_ble_eq_true rfl) dX6_readFact_123 (fun M10 => ?_)
            exact z_return (x := 0) (pc := 126) hR rfl rfl dX6_readFact_126 rfl
        · refine z_aload_n (pc := 66) hR 0 dX6_readFact_66 rfl rfl ?_
          refine z_getm (pc := 67) hR (j := 0) jf_RX6_9 kxo_12 (by decide) rfl rfl dX6_readFact_67 ?_
          refine z_chk (fun hc11 => ?_)
          refine z_cast hc11 ?_
          refine z_callv0 (pc := 70) (rk' := 3) hR (As := []) (st := []) jm_X8_move jl_RX6_66 kxo_2 (by decide) rfl (c_To_move N M) rfl (by omega) (by decide) rfl (Nat.le_of_ble_eq_true rfl) dX6_readFact_70 (fun M12 => ?_)
          refine z_aload_n (pc := 73) hR 0 dX6_readFact_73 rfl rfl ?_
          refine z_iload_n (pc := 74) hR 1 dX6_readFact_74 rfl rfl ?_
          refine z_iconst (pc := 75) hR dX6_readFact_75 rfl ?_
          refine z_iadd (pc := 76) hR dX6_readFact_76 ?_
          refine z_callv0 (pc := 77) (rk' := 3) hR (As := [(0, (w32 (a1 + 1)))]) (st := []) jm_X6_readFact jl_RX6_69 kxo_12 (by decide) rfl (hreadFact ((w32 (a1 + 1))) M12) rfl (by omega) (by decide) rfl (Nat.le_of_ble_eq_true rfl) dX6_readFact_77 (fun M13 => ?_)
          refine z_aload_n (pc := 80) hR 0 dX6_readFact_80 rfl rfl ?_
          refine z_getm (pc := 81) hR (j := 1) jf_RX6_15 kxo_12 (by decide) rfl rfl dX6_readFact_81 ?_
          refine z_chk (fun hc14 => ?_)
          refine z_bipush (pc := 84) hR dX6_readFact_84 rfl ?_
          refine z_callv0 (pc := 86) (rk' := 3) hR (As := [(0, 25)]) (st := []) jm_X5_apply jl_RX6_72 (jkb_ok hc14) (by decide) rfl (c_Ru_apply N ((M13 12 1)) 25 M13 (jkb_ok hc14)) rfl (by omega) (by decide) rfl (Nat.le_of_ble_eq_true rfl) dX6_readFact_86 (fun M15 => ?_)
          refine z_goto (pc := 89) (tgt := 126) hR dX6_readFact_89 (by decide) ?_
          exact z_return (x := 0) (pc := 126) hR rfl rfl dX6_readFact_126 rfl
      · refine z_aload_n (pc := 49) hR 0 dX6_readFact_49 rfl rfl ?_
        refine z_getm (pc := 50) hR (j := 0) jf_RX6_9 kxo_12 (by decide) rfl rfl dX6_readFact_50 ?_
        refine z_chk (fun hc16 => ?_)
        refine z_cast hc16 ?_
        refine z_iconst (pc := 53) hR dX6_readFact_53 rfl ?_
        refine z_callv0 (pc := 54) (rk' := 3) hR (As := [(0, 2)]) (st := []) jm_X8_fail jl_RX6_63 kxo_2 (by decide) rfl (c_To_fail N 2 M) rfl (by omega) (by decide) rfl (Nat.le_of_ble_eq_true rfl) dX6_readFact_54 (fun M17 => ?_)
        refine z_goto (pc := 57) (tgt := 126) hR dX6_readFact_57 (by decide) ?_
        exact z_return (x := 0) (pc := 126) hR rfl rfl dX6_readFact_126 rfl
    refine z_icmpeq (pc := 11) (tgt := 43) hR dX6_readFact_11 (by decide) ?_ ?_
    · refine z_pick (pc := 43) (lv' := [(0, 2, 12), (1, 0, a1), (2, 0, r2)]) hR [1, 2, 0] rfl ?_
      exact hj43 ()
    · refine z_iload_n (pc := 14) hR 0 dX6_readFact_14 rfl rfl ?_
      refine z_iconst (pc := 15) hR dX6_readFact_15 rfl ?_
      refine z_icmpeq (pc := 16) (tgt := 43) hR dX6_readFact_16 (by decide) ?_ ?_
      · refine z_pick (pc := 43) (lv' := [(0, 2, 12), (1, 0, a1), (2, 0, r2)]) hR [1, 2, 0] rfl ?_
        exact hj43 ()
      · refine z_aload_n (pc := 19) hR 1 dX6_readFact_19 rfl rfl ?_
        refine z_callv0 (pc := 20) (rk' := 3) hR (As := []) (st := []) jm_X6_readSum jl_RX6_35 kxo_12 (by decide) rfl (c_Rr_readSum N M) rfl (by omega) (by decide) rfl (Nat.le_of_ble_eq_true rfl) dX6_readFact_20 (fun M18 => ?_)
        refine z_aload_n (pc := 23) hR 1 dX6_readFact_23 rfl rfl ?_
        refine z_callv1 (pc := 24) hR (As := []) (st := []) jm_X6_takeSign jl_RX6_75 kxo_12 (by decide) rfl (by decide) (c_Rr_takeSign N M18) rfl (by omega) (by decide) rfl (Nat.le_of_ble_eq_true rfl) dX6_readFact_24 (fun r19 M20 => ?_)
        refine z_istore_n (pc := 27) hR (lv' := [(3, 0, r19), (2, 0, r2), (0, 2, 12), (1, 0, a1)]) dX6_readFact_27 rfl (by decide) rfl ?_
        refine z_aload_n (pc := 28) hR 2 dX6_readFact_28 rfl rfl ?_
        refine z_callv0 (pc := 29) (rk' := 3) hR (As := []) (st := []) jm_X6_readSum jl_RX6_35 kxo_12 (by decide) rfl (c_Rr_readSum N M20) rfl (by omega) (by decide) rfl (Nat.le_of_ble_eq_true rfl) dX6_readFact_29 (fun M21 => ?_)
        refine z_aload_n (pc := 32) hR 2 dX6_readFact_32 rfl rfl ?_
        refine z_getm (pc := 33) hR (j := 1) jf_RX6_15 kxo_12 (by decide) rfl rfl dX6_readFact_33 ?_
        refine z_chk (fun hc22 => ?_)
        refine z_iload_n (pc := 36) hR 0 dX6_readFact_36 rfl rfl ?_
        refine z_callv0 (pc := 37) (rk' := 3) hR (As := [(0, r19)]) (st := []) jm_X5_apply jl_RX6_72 (jkb_ok hc22) (by decide) rfl (c_Ru_apply N ((M21 12 1)) r19 M21 (jkb_ok hc22)) rfl (by omega) (by decide) rfl (Nat.le_of_ble_eq_true rfl) dX6_readFact_37 (fun M23 => ?_)
        refine z_goto (pc := 40) (tgt := 126) hR dX6_readFact_40 (by decide) ?_
        exact z_return (x := 0) (pc := 126) hR rfl rfl dX6_readFact_126 rfl

theorem c_Rr_readTest {l : Launch} {g : jG} (N n : Nat) (a1 : Int) (M : jMem) : ∀ o, Rr_readTest N n a1 M = some o → jCt l g jTX yX6_readTest cX6_readTest 5 none 3 (12 + n) [(2, 12), (0, a1)] M o := (c_Rr_rr N n a1 M).1
theorem dX5_closeClause_0 : decode cX5_closeClause 0 = .ok (.aload_n 0, 1) := by decide +kernel
theorem dX5_closeClause_1 : decode cX5_closeClause 1 = .ok (.getfield 32, 3) := by decide +kernel
theorem dX5_closeClause_4 : decode cX5_closeClause 4 = .ok (.bipush 12, 2) := by decide +kernel
theorem dX5_closeClause_6 : decode cX5_closeClause 6 = .ok (.if_icmp .ge 26, 3) := by decide +kernel
theorem dX5_closeClause_9 : decode cX5_closeClause 9 = .ok (.aload_n 0, 1) := by decide +kernel
theorem dX5_closeClause_10 : decode cX5_closeClause 10 = .ok (.getfield 21, 3) := by decide +kernel
theorem dX5_closeClause_13 : decode cX5_closeClause 13 = .ok (.aload_n 0, 1) := by decide +kernel
theorem dX5_closeClause_14 : decode cX5_closeClause 14 = .ok (.getfield 32, 3) := by decide +kernel
theorem dX5_closeClause_17 : decode cX5_closeClause 17 = .ok (.aload_n 0, 1) := by decide +kernel
theorem dX5_closeClause_18 : decode cX5_closeClause 18 = .ok (.getfield 28, 3) := by decide +kernel
theorem dX5_closeClause_21 : decode cX5_closeClause 21 = .ok (.iastore, 1) := by decide +kernel
theorem dX5_closeClause_22 : decode cX5_closeClause 22 = .ok (.aload_n 0, 1) := by decide +kernel
theorem dX5_closeClause_23 : decode cX5_closeClause 23 = .ok (.dup, 1) := by decide +kernel
theorem dX5_closeClause_24 : decode cX5_closeClause 24 = .ok (.getfield 32, 3) := by decide +kernel
theorem dX5_closeClause_27 : decode cX5_closeClause 27 = .ok (.iconst 1, 1) := by decide +kernel
theorem dX5_closeClause_28 : decode cX5_closeClause 28 = .ok (.iadd, 1) := by decide +kernel
theorem dX5_closeClause_29 : decode cX5_closeClause 29 = .ok (.putfield 32, 3) := by decide +kernel
theorem dX5_closeClause_32 : decode cX5_closeClause 32 = .ok (.return_, 1) := by decide +kernel
def Ru_closeClause (N : Nat) (q : Int) (M : jMem) : Option (Int × jMem) := (if (M q 5) < 12 then jchk (0 ≤ (M q 5) ∧ (M q 5) < 12) <| jlt (up M ((q + 4)) ((M q 5)) ((M q 1))) fun M2 => jlt (up M2 q 5 ((w32 (((M2 q 5)) + 1)))) fun M3 => some (0, M3) else some (0, M))
theorem c_Ru_closeClause {l : Launch} {g : jG} (N : Nat) (q : Int) (M : jMem) (hq : jk jTX q 5) : ∀ o, Ru_closeClause N q M = some o → jCt l g jTX yX5_closeClause cX5_closeClause 1 none 3 1 [(2, q)] M o := by
  refine jMet (own := RX5) (em := id) (L := [(0, 2, q)]) (by decide +kernel) rfl (Nat.le_of_ble_eq_true rfl) rfl (fun K hR => ?_)
  unfold Ru_closeClause
  refine z_aload_n (pc := 0) hR 0 dX5_closeClause_0 rfl rfl ?_
  refine z_geti (pc := 1) hR (j := 5) jf_RX5_32 hq (by decide) rfl rfl dX5_closeClause_1 ?_
  refine z_bipush (pc := 4) hR dX5_closeClause_4 rfl ?_
  refine z_icmpge (pc := 6) (tgt := 32) hR dX5_closeClause_6 (by decide) ?_ ?_
  · exact z_return (x := 0) (pc := 32) hR rfl rfl dX5_closeClause_32 rfl
  · refine z_aload_n (pc := 9) hR 0 dX5_closeClause_9 rfl rfl ?_
    refine z_getr (pc := 10) hR (c0 := 4) (r := (q + 4)) jf_RX5_21 hq (by decide) rfl rfl dX5_closeClause_10 ?_
    refine z_aload_n (pc := 13) hR 0 dX5_closeClause_13 rfl rfl ?_
    refine z_geti (pc := 14) hR (j := 5) jf_RX5_32 hq (by decide) rfl rfl dX5_closeClause_14 ?_
    refine z_aload_n (pc := 17) hR 0 dX5_closeClause_17 rfl rfl ?_
    refine z_geti (pc := 18) hR (j := 1) jf_RX5_28 hq (by decide) rfl rfl dX5_closeClause_18 ?_
    refine z_chk (fun hc1 => ?_)
    refine z_iast (pc := 21) hR (n := 12) (kf_5_testTo hq) hc1.1 hc1.2 dX5_closeClause_21 (fun M2 => ?_)
    refine z_aload_n (pc := 22) hR 0 dX5_closeClause_22 rfl rfl ?_
    refine z_dup (pc := 23) hR dX5_closeClause_23 (by decide) ?_
    refine z_geti (pc := 24) hR (j := 5) jf_RX5_32 hq (by decide) rfl rfl dX5_closeClause_24 ?_
    refine z_iconst (pc := 27) hR dX5_closeClause_27 rfl ?_
    refine z_iadd (pc := 28) hR dX5_closeClause_28 ?_
    refine z_puti (pc := 29) hR (j := 5) jp_RX5_32 hq (by decide) rfl rfl rfl rfl dX5_closeClause_29 (fun M3 => ?_)
    exact z_return (x := 0) (pc := 32) hR rfl rfl dX5_closeClause_32 rfl
theorem dX6_read_0 : decode cX6_read 0 = .ok (.aload_n 0, 1) := by decide +kernel
theorem dX6_read_1 : decode cX6_read 1 = .ok (.aload_n 1, 1) := by decide +kernel
theorem dX6_read_2 : decode cX6_read 2 = .ok (.putfield 9, 3) := by decide +kernel
theorem dX6_read_5 : decode cX6_read 5 = .ok (.aload_n 0, 1) := by decide +kernel
theorem dX6_read_6 : decode cX6_read 6 = .ok (.aload_n 2, 1) := by decide +kernel
theorem dX6_read_7 : decode cX6_read 7 = .ok (.putfield 15, 3) := by decide +kernel
theorem dX6_read_10 : decode cX6_read 10 = .ok (.aload_n 0, 1) := by decide +kernel
theorem dX6_read_11 : decode cX6_read 11 = .ok (.getfield 15, 3) := by decide +kernel
theorem dX6_read_14 : decode cX6_read 14 = .ok (.invokevirtual 19, 3) := by decide +kernel
theorem dX6_read_17 : decode cX6_read 17 = .ok (.aload_n 0, 1) := by decide +kernel
theorem dX6_read_18 : decode cX6_read 18 = .ok (.iconst 0, 1) := by decide +kernel
theorem dX6_read_19 : decode cX6_read 19 = .ok (.putfield 24, 3) := by decide +kernel
theorem dX6_read_22 : decode cX6_read 22 = .ok (.iconst 0, 1) := by decide +kernel
theorem dX6_read_23 : decode cX6_read 23 = .ok (.istore_n 3, 1) := by decide +kernel
theorem dX6_read_24 : decode cX6_read 24 = .ok (.aload_n 0, 1) := by decide +kernel
theorem dX6_read_25 : decode cX6_read 25 = .ok (.iload_n 3, 1) := by decide +kernel
theorem dX6_read_26 : decode cX6_read 26 = .ok (.invokevirtual 28, 3) := by decide +kernel
theorem dX6_read_29 : decode cX6_read 29 = .ok (.aload_n 0, 1) := by decide +kernel
theorem dX6_read_30 : decode cX6_read 30 = .ok (.getfield 15, 3) := by decide +kernel
theorem dX6_read_33 : decode cX6_read 33 = .ok (.invokevirtual 32, 3) := by decide +kernel
theorem dX6_read_36 : decode cX6_read 36 = .ok (.aload_n 0, 1) := by decide +kernel
theorem dX6_read_37 : decode cX6_read 37 = .ok (.invokevirtual 35, 3) := by decide +kernel
theorem dX6_read_40 : decode cX6_read 40 = .ok (.aload_n 0, 1) := by decide +kernel
theorem dX6_read_41 : decode cX6_read 41 = .ok (.getfield 15, 3) := by decide +kernel
theorem dX6_read_44 : decode cX6_read 44 = .ok (.invokevirtual 38, 3) := by decide +kernel
theorem dX6_read_47 : decode cX6_read 47 = .ok (.aload_n 0, 1) := by decide +kernel
theorem dX6_read_48 : decode cX6_read 48 = .ok (.getfield 9, 3) := by decide +kernel
theorem dX6_read_51 : decode cX6_read 51 = .ok (.bipush 22, 2) := by decide +kernel
theorem dX6_read_53 : decode cX6_read 53 = .ok (.invokevirtual 41, 3) := by decide +kernel
theorem dX6_read_56 : decode cX6_read 56 = .ok (.ifCond .eq 8, 3) := by decide +kernel
theorem dX6_read_59 : decode cX6_read 59 = .ok (.aload_n 0, 1) := by decide +kernel
theorem dX6_read_60 : decode cX6_read 60 = .ok (.iconst 0, 1) := by decide +kernel
theorem dX6_read_61 : decode cX6_read 61 = .ok (.invokevirtual 47, 3) := by decide +kernel
theorem dX6_read_64 : decode cX6_read 64 = .ok (.aload_n 0, 1) := by decide +kernel
theorem dX6_read_65 : decode cX6_read 65 = .ok (.getfield 15, 3) := by decide +kernel
theorem dX6_read_68 : decode cX6_read 68 = .ok (.invokevirtual 50, 3) := by decide +kernel
theorem dX6_read_71 : decode cX6_read 71 = .ok (.iinc 3 1, 3) := by decide +kernel
theorem dX6_read_74 : decode cX6_read 74 = .ok (.iload_n 3, 1) := by decide +kernel
theorem dX6_read_75 : decode cX6_read 75 = .ok (.bipush 12, 2) := by decide +kernel
theorem dX6_read_77 : decode cX6_read 77 = .ok (.if_icmp .gt 14, 3) := by decide +kernel
theorem dX6_read_80 : decode cX6_read 80 = .ok (.aload_n 0, 1) := by decide +kernel
theorem dX6_read_81 : decode cX6_read 81 = .ok (.getfield 9, 3) := by decide +kernel
theorem dX6_read_84 : decode cX6_read 84 = .ok (.iconst 4, 1) := by decide +kernel
theorem dX6_read_85 : decode cX6_read 85 = .ok (.invokevirtual 41, 3) := by decide +kernel
theorem dX6_read_88 : decode cX6_read 88 = .ok (.ifCond .ne (-64), 3) := by decide +kernel
theorem dX6_read_91 : decode cX6_read 91 = .ok (.aload_n 0, 1) := by decide +kernel
theorem dX6_read_92 : decode cX6_read 92 = .ok (.getfield 9, 3) := by decide +kernel
theorem dX6_read_95 : decode cX6_read 95 = .ok (.invokevirtual 53, 3) := by decide +kernel
theorem dX6_read_98 : decode cX6_read 98 = .ok (.aload_n 0, 1) := by decide +kernel
theorem dX6_read_99 : decode cX6_read 99 = .ok (.getfield 9, 3) := by decide +kernel
theorem dX6_read_102 : decode cX6_read 102 = .ok (.getfield 56, 3) := by decide +kernel
theorem dX6_read_105 : decode cX6_read 105 = .ok (.ireturn, 1) := by decide +kernel
def Rr_read_L24 (N : Nat)  (h24 : (Int × jMem) → Option (Int × jMem)) : Int × jMem → Option (Int × jMem)
  | (x6, M7) => jbv (Rr_takeWed N x6 M7) fun M8 => jchk (jkb jTX (M8 12 1) 5 = true) <| jbv (Ru_openClause N ((M8 12 1)) M8) fun M10 => jbv (Rr_readSum N M10) fun M11 => jchk (jkb jTX (M11 12 1) 5 = true) <| jbv (Ru_openTest N ((M11 12 1)) M11) fun M13 => jchk (M13 12 0 = 2) <| jb1 (To_takes N 22 M13) fun r15 M16 => jlt (fun (M17 : jMem) => jchk (jkb jTX (M17 12 1) 5 = true) <| jbv (Ru_closeClause N ((M17 12 1)) M17) fun M19 => jlt (fun (M20 : jMem) => jchk (M20 12 0 = 2) <| jbv (To_takeEnd N M20) fun M22 => jchk (M22 12 0 = 2) <| some ((M22 2 4), M22)) fun j91 => (if 12 < (w32 (x6 + 1)) then j91 M19 else jchk (M19 12 0 = 2) <| jb1 (To_takes N 4 M19) fun r25 M26 => (if r25 = 0 then j91 M26 else h24 ((w32 (x6 + 1)), M26)))) fun j64 => (if r15 = 0 then j64 M16 else jbv (Rr_readTest N 30 0 M16) fun M27 => j64 M27)
def Rr_read (N : Nat) (a2 : Int) (M : jMem) : Option (Int × jMem) := jlt (up M 12 0 2) fun M1 => jlt (up M1 12 1 a2) fun M2 => jchk (jkb jTX (M2 12 1) 5 = true) <| jbv (Ru_clear N ((M2 12 1)) M2) fun M4 => jlt (up M4 12 2 0) fun M5 => jfix N (Rr_read_L24 N) (0, M5)
theorem c_Rr_read {l : Launch} {g : jG} (N : Nat) (a2 : Int) (M : jMem) (ha2 : jk jTX a2 5) : ∀ o, Rr_read N a2 M = some o → jCt l g jTX yX6_read cX6_read 4 (some .int) 0 44 [(2, 12), (2, 2), (2, a2)] M o := by
  refine jMet (own := RX6) (em := id) (L := [(0, 2, 12), (1, 2, 2), (2, 2, a2)]) (by decide +kernel) rfl (Nat.le_of_ble_eq_true rfl) rfl (fun K hR => ?_)
  unfold Rr_read
  refine z_aload_n (pc := 0) hR 0 dX6_read_0 rfl rfl ?_
  refine z_aload_n (pc := 1) hR 1 dX6_read_1 rfl rfl ?_
  refine z_putm (pc := 2) hR (j := 0) jp_RX6_9 kxo_12 (by decide) rfl rfl (by decide) (fun _ => rfl) (fun _ => rfl) dX6_read_2 (fun M1 => ?_)
  refine z_aload_n (pc := 5) hR 0 dX6_read_5 rfl rfl ?_
  refine z_aload_n (pc := 6) hR 2 dX6_read_6 rfl rfl ?_
  refine z_putm (pc := 7) hR (j := 1) jp_RX6_15 kxo_12 (by decide) rfl rfl (ha2.1) (fun _ => rfl) (fun _ => rfl) dX6_read_7 (fun M2 => ?_)
  refine z_aload_n (pc := 10) hR 0 dX6_read_10 rfl rfl ?_
  refine z_getm (pc := 11) hR (j := 1) jf_RX6_15 kxo_12 (by decide) rfl rfl dX6_read_11 ?_
  refine z_chk (fun hc3 => ?_)
  refine z_callv0 (pc := 14) (rk' := 3) hR (As := []) (st := []) jm_X5_clear jl_RX6_19 (jkb_ok hc3) (by decide) rfl (c_Ru_clear N ((M2 12 1)) M2 (jkb_ok hc3)) rfl (by decide) (by decide) rfl (Nat.le_of_ble_eq_true rfl) dX6_read_14 (fun M4 => ?_)
  refine z_aload_n (pc := 17) hR 0 dX6_read_17 rfl rfl ?_
  refine z_iconst (pc := 18) hR dX6_read_18 rfl ?_
  refine z_puti (pc := 19) hR (j := 2) jp_RX6_24 kxo_12 (by decide) rfl rfl rfl rfl dX6_read_19 (fun M5 => ?_)
  refine z_iconst (pc := 22) hR dX6_read_22 rfl ?_
  refine z_istore_n (pc := 23) hR (lv' := [(3, 0, 0), (0, 2, 12), (1, 2, 2), (2, 2, a2)]) dX6_read_23 rfl (by decide) rfl ?_
  refine z_pick (pc := 24) (lv' := [(0, 2, 12), (3, 0, 0)]) hR [1, 0] rfl ?_
  refine z_fix (σ := Int × jMem) (lv := fun s => [(0, 2, 12), (3, 0, s.1)]) (st := fun _ => []) (M := fun s => s.2) (fun h24 hh24 => ?_) N (0, M5)
  rintro ⟨x6, M7⟩
  show jZ K id 24 [(0, 2, 12), (3, 0, x6)] [] M7 _
  unfold Rr_read_L24
  refine z_aload_n (pc := 24) hR 0 dX6_read_24 rfl rfl ?_
  refine z_iload_n (pc := 25) hR 1 dX6_read_25 rfl rfl ?_
  refine z_callv0 (pc := 26) (rk' := 3) hR (As := [(0, x6)]) (st := []) jm_X6_takeWed jl_RX6_28 kxo_12 (by decide) rfl (c_Rr_takeWed N x6 M7) rfl (by decide) (by decide) rfl (Nat.le_of_ble_eq_true rfl) dX6_read_26 (fun M8 => ?_)
  refine z_aload_n (pc := 29) hR 0 dX6_read_29 rfl rfl ?_
  refine z_getm (pc := 30) hR (j := 1) jf_RX6_15 kxo_12 (by decide) rfl rfl dX6_read_30 ?_
  refine z_chk (fun hc9 => ?_)
  refine z_callv0 (pc := 33) (rk' := 3) hR (As := []) (st := []) jm_X5_openClause jl_RX6_32 (jkb_ok hc9) (by decide) rfl (c_Ru_openClause N ((M8 12 1)) M8 (jkb_ok hc9)) rfl (by decide) (by decide) rfl (Nat.le_of_ble_eq_true rfl) dX6_read_33 (fun M10 => ?_)
  refine z_aload_n (pc := 36) hR 0 dX6_read_36 rfl rfl ?_
  refine z_callv0 (pc := 37) (rk' := 3) hR (As := []) (st := []) jm_X6_readSum jl_RX6_35 kxo_12 (by decide) rfl (c_Rr_readSum N M10) rfl (by decide) (by decide) rfl (Nat.le_of_ble_eq_true rfl) dX6_read_37 (fun M11 => ?_)
  refine z_aload_n (pc := 40) hR 0 dX6_read_40 rfl rfl ?_
  refine z_getm (pc := 41) hR (j := 1) jf_RX6_15 kxo_12 (by decide) rfl rfl dX6_read_41 ?_
  refine z_chk (fun hc12 => ?_)
  refine z_callv0 (pc := 44) (rk' := 3) hR (As := []) (st := []) jm_X5_openTest jl_RX6_38 (jkb_ok hc12) (by decide) rfl (c_Ru_openTest N ((M11 12 1)) M11 (jkb_ok hc12)) rfl (by decide) (by decide) rfl (Nat.le_of_ble_eq_true rfl) dX6_read_44 (fun M13 => ?_)
  refine z_aload_n (pc := 47) hR 0 dX6_read_47 rfl rfl ?_
  refine z_getm (pc := 48) hR (j := 0) jf_RX6_9 kxo_12 (by decide) rfl rfl dX6_read_48 ?_
  refine z_chk (fun hc14 => ?_)
  refine z_cast hc14 ?_
  refine z_bipush (pc := 51) hR dX6_read_51 rfl ?_
  refine z_callv1 (pc := 53) hR (As := [(0, 22)]) (st := []) jm_X8_takes jl_RX6_41 kxo_2 (by decide) rfl (by decide) (c_To_takes N 22 M13) rfl (by decide) (by decide) rfl (Nat.le_of_ble_eq_true rfl) dX6_read_53 (fun r15 M16 => ?_)
  refine z_join (P := fun j => ∀ (M17 : jMem), jZ K id 64 [(0, 2, 12), (3, 0, x6)] [] M17 (j M17)) (fun M17 => ?_) (fun j64 hj64 => ?_)
  · refine z_aload_n (pc := 64) hR 0 dX6_read_64 rfl rfl ?_
    refine z_getm (pc := 65) hR (j := 1) jf_RX6_15 kxo_12 (by decide) rfl rfl dX6_read_65 ?_
    refine z_chk (fun hc18 => ?_)
    refine z_callv0 (pc := 68) (rk' := 3) hR (As := []) (st := []) jm_X5_closeClause jl_RX6_50 (jkb_ok hc18) (by decide) rfl (c_Ru_closeClause N ((M17 12 1)) M17 (jkb_ok hc18)) rfl (by decide) (by decide) rfl (Nat.le_of_ble_eq_true rfl) dX6_read_68 (fun M19 => ?_)
    refine z_iinc (pc := 71) hR (j := 1) (lv' := [(3, 0, (w32 (x6 + 1))), (0, 2, 12)]) dX6_read_71 rfl (by decide) rfl ?_
    refine z_iload_n (pc := 74) hR 0 dX6_read_74 rfl rfl ?_
    refine z_bipush (pc := 75) hR dX6_read_75 rfl ?_
    refine z_join (P := fun j => ∀ (M20 : jMem), jZ K id 91 [(0, 2, 12)] [] M20 (j M20)) (fun M20 => ?_) (fun j91 hj91 => ?_)
    · refine z_aload_n (pc := 91) hR 0 dX6_read_91 rfl rfl ?_
      refine z_getm (pc := 92) hR (j := 0) jf_RX6_9 kxo_12 (by decide) rfl rfl dX6_read_92 ?_
      refine z_chk (fun hc21 => ?_)
      refine z_cast hc21 ?_
      refine z_callv0 (pc := 95) (rk' := 3) hR (As := []) (st := []) jm_X8_takeEnd jl_RX6_53 kxo_2 (by decide) rfl (c_To_takeEnd N M20) rfl (by decide) (by decide) rfl (Nat.le_of_ble_eq_true rfl) dX6_read_95 (fun M22 => ?_)
      refine z_aload_n (pc := 98) hR 0 dX6_read_98 rfl rfl ?_
      refine z_getm (pc := 99) hR (j := 0) jf_RX6_9 kxo_12 (by decide) rfl rfl dX6_read_99 ?_
      refine z_chk (fun hc23 => ?_)
      refine z_cast hc23 ?_
      refine z_geti (pc := 102) hR (j := 4) jf_RX6_56 kxo_2 (by decide) rfl rfl dX6_read_102 ?_
      exact z_ireturn (pc := 105) hR rfl rfl dX6_read_105 rfl
    refine z_icmpgt (pc := 77) (tgt := 91) hR dX6_read_77 (by decide) ?_ ?_
    · refine z_pick (pc := 91) (lv' := [(0, 2, 12)]) hR [1] rfl ?_
      exact hj91 M19
    · refine z_aload_n (pc := 80) hR 1 dX6_read_80 rfl rfl ?_
      refine z_getm (pc := 81) hR (j := 0) jf_RX6_9 kxo_12 (by decide) rfl rfl dX6_read_81 ?_
      refine z_chk (fun hc24 => ?_)
      refine z_cast hc24 ?_
      refine z_iconst (pc := 84) hR dX6_read_84 rfl ?_
      refine z_callv1 (pc := 85) hR (As := [(0, 4)]) (st := []) jm_X8_takes jl_RX6_41 kxo_2 (by decide) rfl (by decide) (c_To_takes N 4 M19) rfl (by decide) (by decide) rfl (Nat.le_of_ble_eq_true rfl) dX6_read_85 (fun r25 M26 => ?_)
      refine z_ifne (pc := 88) (tgt := 24) hR dX6_read_88 (by decide) ?_ ?_
      · refine z_pick (pc := 24) (lv' := [(0, 2, 12), (3, 0, (w32 (x6 + 1)))]) hR [1, 0] rfl ?_
        exact hh24 ((w32 (x6 + 1)), M26)
      · refine z_pick (pc := 91) (lv' := [(0, 2, 12)]) hR [1] rfl ?_
        exact hj91 M26
  refine z_ifeq (pc := 56) (tgt := 64) hR dX6_read_56 (by decide) ?_ ?_
  · exact hj64 M16
  · refine z_aload_n (pc := 59) hR 0 dX6_read_59 rfl rfl ?_
    refine z_iconst (pc := 60) hR dX6_read_60 rfl ?_
    refine z_callv0 (pc := 61) (rk' := 3) hR (As := [(0, 0)]) (st := []) jm_X6_readTest jl_RX6_47 kxo_12 (by decide) rfl (c_Rr_readTest N 30 0 M16) rfl (by omega) (by decide) rfl (Nat.le_of_ble_eq_true rfl) dX6_read_61 (fun M27 => ?_)
    exact hj64 M27
theorem dX11_rule_0 : decode cX11_rule 0 = .ok (.aload_n 0, 1) := by decide +kernel
theorem dX11_rule_1 : decode cX11_rule 1 = .ok (.getfield 126, 3) := by decide +kernel
theorem dX11_rule_4 : decode cX11_rule 4 = .ok (.bipush 6, 2) := by decide +kernel
theorem dX11_rule_6 : decode cX11_rule 6 = .ok (.if_icmp .lt 5, 3) := by decide +kernel
theorem dX11_rule_9 : decode cX11_rule 9 = .ok (.iconst (-1), 1) := by decide +kernel
theorem dX11_rule_10 : decode cX11_rule 10 = .ok (.ireturn, 1) := by decide +kernel
theorem dX11_rule_11 : decode cX11_rule 11 = .ok (.aload_n 0, 1) := by decide +kernel
theorem dX11_rule_12 : decode cX11_rule 12 = .ok (.invokevirtual 88, 3) := by decide +kernel
theorem dX11_rule_15 : decode cX11_rule 15 = .ok (.aload_n 0, 1) := by decide +kernel
theorem dX11_rule_16 : decode cX11_rule 16 = .ok (.getfield 30, 3) := by decide +kernel
theorem dX11_rule_19 : decode cX11_rule 19 = .ok (.aload_n 0, 1) := by decide +kernel
theorem dX11_rule_20 : decode cX11_rule 20 = .ok (.getfield 16, 3) := by decide +kernel
theorem dX11_rule_23 : decode cX11_rule 23 = .ok (.aload_n 0, 1) := by decide +kernel
theorem dX11_rule_24 : decode cX11_rule 24 = .ok (.getfield 36, 3) := by decide +kernel
theorem dX11_rule_27 : decode cX11_rule 27 = .ok (.aload_n 0, 1) := by decide +kernel
theorem dX11_rule_28 : decode cX11_rule 28 = .ok (.getfield 126, 3) := by decide +kernel
theorem dX11_rule_31 : decode cX11_rule 31 = .ok (.aaload, 1) := by decide +kernel
theorem dX11_rule_32 : decode cX11_rule 32 = .ok (.invokevirtual 129, 3) := by decide +kernel
theorem dX11_rule_35 : decode cX11_rule 35 = .ok (.istore_n 1, 1) := by decide +kernel
theorem dX11_rule_36 : decode cX11_rule 36 = .ok (.iload_n 1, 1) := by decide +kernel
theorem dX11_rule_37 : decode cX11_rule 37 = .ok (.ifCond .eq 8, 3) := by decide +kernel
theorem dX11_rule_40 : decode cX11_rule 40 = .ok (.bipush (-2), 2) := by decide +kernel
theorem dX11_rule_42 : decode cX11_rule 42 = .ok (.iload_n 1, 1) := by decide +kernel
theorem dX11_rule_43 : decode cX11_rule 43 = .ok (.isub, 1) := by decide +kernel
theorem dX11_rule_44 : decode cX11_rule 44 = .ok (.ireturn, 1) := by decide +kernel
theorem dX11_rule_45 : decode cX11_rule 45 = .ok (.aload_n 0, 1) := by decide +kernel
theorem dX11_rule_46 : decode cX11_rule 46 = .ok (.dup, 1) := by decide +kernel
theorem dX11_rule_47 : decode cX11_rule 47 = .ok (.getfield 126, 3) := by decide +kernel
theorem dX11_rule_50 : decode cX11_rule 50 = .ok (.iconst 1, 1) := by decide +kernel
theorem dX11_rule_51 : decode cX11_rule 51 = .ok (.iadd, 1) := by decide +kernel
theorem dX11_rule_52 : decode cX11_rule 52 = .ok (.putfield 126, 3) := by decide +kernel
theorem dX11_rule_55 : decode cX11_rule 55 = .ok (.aload_n 0, 1) := by decide +kernel
theorem dX11_rule_56 : decode cX11_rule 56 = .ok (.getfield 126, 3) := by decide +kernel
theorem dX11_rule_59 : decode cX11_rule 59 = .ok (.iconst 1, 1) := by decide +kernel
theorem dX11_rule_60 : decode cX11_rule 60 = .ok (.isub, 1) := by decide +kernel
theorem dX11_rule_61 : decode cX11_rule 61 = .ok (.ireturn, 1) := by decide +kernel
def x_rule (N : Nat) (M : jMem) : Option (Int × jMem) := (if (M 0 6) < 6 then jbv (x_cutTape N M) fun M1 => jchk (0 ≤ (M1 0 6) ∧ (M1 0 6) < 6) <| jb1 (Rr_read N ((13 + 164 + 6 * ((M1 0 6)))) M1) fun r3 M4 => (if r3 = 0 then jlt (up M4 0 6 ((w32 (((M4 0 6)) + 1)))) fun M5 => some ((w32 (((M5 0 6)) - 1)), M5) else some ((w32 (((-2)) - r3)), M4)) else some ((-1), M))
theorem c_x_rule {l : Launch} {g : jG} (N : Nat) (M : jMem)  : ∀ o, x_rule N  M = some o → jCt l g jTX yX11_rule cX11_rule 2 (some .int) 0 46 [(2, 0)] M o := by
  refine jMet (own := RX11) (em := id) (L := [(0, 2, 0)]) (by decide +kernel) rfl (Nat.le_of_ble_eq_true rfl) rfl (fun K hR => ?_)
  unfold x_rule
  refine z_aload_n (pc := 0) hR 0 dX11_rule_0 rfl rfl ?_
  refine z_geti (pc := 1) hR (j := 6) jf_RX11_126 kxo_0 (by decide) rfl rfl dX11_rule_1 ?_
  refine z_bipush (pc := 4) hR dX11_rule_4 rfl ?_
  refine z_icmplt (pc := 6) (tgt := 11) hR dX11_rule_6 (by decide) ?_ ?_
  · refine z_aload_n (pc := 11) hR 0 dX11_rule_11 rfl rfl ?_
    refine z_callv0 (pc := 12) (rk' := 3) hR (As := []) (st := []) jm_X11_cutTape jl_RX11_88 kxo_0 (by decide) rfl (c_x_cutTape N M) rfl (by decide) (by decide) rfl (Nat.le_of_ble_eq_true rfl) dX11_rule_12 (fun M1 => ?_)
    refine z_aload_n (pc := 15) hR 0 dX11_rule_15 rfl rfl ?_
    refine z_getr (pc := 16) hR (c0 := 12) (r := 12) jf_RX11_30 kxo_0 (by decide) rfl rfl dX11_rule_16 ?_
    refine z_aload_n (pc := 19) hR 0 dX11_rule_19 rfl rfl ?_
    refine z_getr (pc := 20) hR (c0 := 2) (r := 2) jf_RX11_16 kxo_0 (by decide) rfl rfl dX11_rule_20 ?_
    refine z_aload_n (pc := 23) hR 0 dX11_rule_23 rfl rfl ?_
    refine z_getr (pc := 24) hR (c0 := 13) (r := 13) jf_RX11_36 kxo_0 (by decide) rfl rfl dX11_rule_24 ?_
    refine z_aload_n (pc := 27) hR 0 dX11_rule_27 rfl rfl ?_
    refine z_geti (pc := 28) hR (j := 6) jf_RX11_126 kxo_0 (by decide) rfl rfl dX11_rule_28 ?_
    refine z_chk (fun hc2 => ?_)
    refine z_aald5 (pc := 31) hR (n := 6) kxa_13 hc2.1 hc2.2 dX11_rule_31 ?_
    refine z_callv1 (pc := 32) hR (As := [(2, 2), (2, (13 + 164 + 6 * ((M1 0 6))))]) (st := []) jm_X6_read jl_RX11_129 kxo_12 (by decide) rfl (by decide) (c_Rr_read N ((13 + 164 + 6 * ((M1 0 6)))) M1 (ke_5 kxa_13 hc2.1 hc2.2)) rfl (by decide) (by decide) rfl (Nat.le_of_ble_eq_true rfl) dX11_rule_32 (fun r3 M4 => ?_)
    refine z_istore_n (pc := 35) hR (lv' := [(1, 0, r3), (0, 2, 0)]) dX11_rule_35 rfl (by decide) rfl ?_
    refine z_iload_n (pc := 36) hR 0 dX11_rule_36 rfl rfl ?_
    refine z_ifeq (pc := 37) (tgt := 45) hR dX11_rule_37 (by decide) ?_ ?_
    · refine z_aload_n (pc := 45) hR 1 dX11_rule_45 rfl rfl ?_
      refine z_dup (pc := 46) hR dX11_rule_46 (by decide) ?_
      refine z_geti (pc := 47) hR (j := 6) jf_RX11_126 kxo_0 (by decide) rfl rfl dX11_rule_47 ?_
      refine z_iconst (pc := 50) hR dX11_rule_50 rfl ?_
      refine z_iadd (pc := 51) hR dX11_rule_51 ?_
      refine z_puti (pc := 52) hR (j := 6) jp_RX11_126 kxo_0 (by decide) rfl rfl rfl rfl dX11_rule_52 (fun M5 => ?_)
      refine z_aload_n (pc := 55) hR 1 dX11_rule_55 rfl rfl ?_
      refine z_geti (pc := 56) hR (j := 6) jf_RX11_126 kxo_0 (by decide) rfl rfl dX11_rule_56 ?_
      refine z_iconst (pc := 59) hR dX11_rule_59 rfl ?_
      refine z_isub (pc := 60) hR dX11_rule_60 ?_
      exact z_ireturn (pc := 61) hR rfl rfl dX11_rule_61 rfl
    · refine z_bipush (pc := 40) hR dX11_rule_40 rfl ?_
      refine z_iload_n (pc := 42) hR 0 dX11_rule_42 rfl rfl ?_
      refine z_isub (pc := 43) hR dX11_rule_43 ?_
      exact z_ireturn (pc := 44) hR rfl rfl dX11_rule_44 rfl
  · refine z_iconst (pc := 9) hR dX11_rule_9 rfl ?_
    exact z_ireturn (pc := 10) hR rfl rfl dX11_rule_10 rfl
theorem dX11_isWithin_0 : decode cX11_isWithin 0 = .ok (.iload_n 0, 1) := by decide +kernel
theorem dX11_isWithin_1 : decode cX11_isWithin 1 = .ok (.iload_n 1, 1) := by decide +kernel
theorem dX11_isWithin_2 : decode cX11_isWithin 2 = .ok (.if_icmp .lt 12, 3) := by decide +kernel
theorem dX11_isWithin_5 : decode cX11_isWithin 5 = .ok (.iload_n 0, 1) := by decide +kernel
theorem dX11_isWithin_6 : decode cX11_isWithin 6 = .ok (.iload_n 2, 1) := by decide +kernel
theorem dX11_isWithin_7 : decode cX11_isWithin 7 = .ok (.if_icmp .gt 7, 3) := by decide +kernel
theorem dX11_isWithin_10 : decode cX11_isWithin 10 = .ok (.iconst 1, 1) := by decide +kernel
theorem dX11_isWithin_11 : decode cX11_isWithin 11 = .ok (.goto 4, 3) := by decide +kernel
theorem dX11_isWithin_14 : decode cX11_isWithin 14 = .ok (.iconst 0, 1) := by decide +kernel
theorem dX11_isWithin_15 : decode cX11_isWithin 15 = .ok (.ireturn, 1) := by decide +kernel
def x_isWithin (N : Nat) (a0 a1 a2 : Int) (M : jMem) : Option Int := (if a0 < a1 then some 0 else (if a2 < a0 then some 0 else some 1))
theorem c_x_isWithin {l : Launch} {g : jG} (N : Nat) (a0 a1 a2 : Int) (M : jMem)  : ∀ o, x_isWithin N a0 a1 a2 M = some o → jCt l g jTX yX11_isWithin cX11_isWithin 3 (some .boolean) 0 1 [(0, a0), (0, a1), (0, a2)] M (o, M) := by
  refine jMet (own := RX11) (em := (fun r => (r, M))) (L := [(0, 0, a0), (1, 0, a1), (2, 0, a2)]) (by decide +kernel) rfl (Nat.le_of_ble_eq_true rfl) rfl (fun K hR => ?_)
  unfold x_isWithin
  refine z_iload_n (pc := 0) hR 0 dX11_isWithin_0 rfl rfl ?_
  refine z_iload_n (pc := 1) hR 1 dX11_isWithin_1 rfl rfl ?_
  refine z_icmplt (pc := 2) (tgt := 14) hR dX11_isWithin_2 (by decide) ?_ ?_
  · refine z_iconst (pc := 14) hR dX11_isWithin_14 rfl ?_
    exact z_zreturn (pc := 15) hR rfl rfl (Or.inl rfl) dX11_isWithin_15 rfl
  · refine z_iload_n (pc := 5) hR 0 dX11_isWithin_5 rfl rfl ?_
    refine z_iload_n (pc := 6) hR 2 dX11_isWithin_6 rfl rfl ?_
    refine z_icmpgt (pc := 7) (tgt := 14) hR dX11_isWithin_7 (by decide) ?_ ?_
    · refine z_iconst (pc := 14) hR dX11_isWithin_14 rfl ?_
      exact z_zreturn (pc := 15) hR rfl rfl (Or.inl rfl) dX11_isWithin_15 rfl
    · refine z_iconst (pc := 10) hR dX11_isWithin_10 rfl ?_
      refine z_goto (pc := 11) (tgt := 15) hR dX11_isWithin_11 (by decide) ?_
      exact z_zreturn (pc := 15) hR rfl rfl (Or.inr rfl) dX11_isWithin_15 rfl
theorem dX11_force_0 : decode cX11_force 0 = .ok (.iload_n 1, 1) := by decide +kernel
theorem dX11_force_1 : decode cX11_force 1 = .ok (.iconst (-1), 1) := by decide +kernel
theorem dX11_force_2 : decode cX11_force 2 = .ok (.aload_n 0, 1) := by decide +kernel
theorem dX11_force_3 : decode cX11_force 3 = .ok (.getfield 126, 3) := by decide +kernel
theorem dX11_force_6 : decode cX11_force 6 = .ok (.iconst 1, 1) := by decide +kernel
theorem dX11_force_7 : decode cX11_force 7 = .ok (.isub, 1) := by decide +kernel
theorem dX11_force_8 : decode cX11_force 8 = .ok (.invokestatic 137, 3) := by decide +kernel
theorem dX11_force_11 : decode cX11_force 11 = .ok (.ifCond .ne 6, 3) := by decide +kernel
theorem dX11_force_14 : decode cX11_force 14 = .ok (.bipush (-2), 2) := by decide +kernel
theorem dX11_force_16 : decode cX11_force 16 = .ok (.ireturn, 1) := by decide +kernel
theorem dX11_force_17 : decode cX11_force 17 = .ok (.aload_n 0, 1) := by decide +kernel
theorem dX11_force_18 : decode cX11_force 18 = .ok (.getfield 43, 3) := by decide +kernel
theorem dX11_force_21 : decode cX11_force 21 = .ok (.getfield 141, 3) := by decide +kernel
theorem dX11_force_24 : decode cX11_force 24 = .ok (.istore_n 2, 1) := by decide +kernel
theorem dX11_force_25 : decode cX11_force 25 = .ok (.aload_n 0, 1) := by decide +kernel
theorem dX11_force_26 : decode cX11_force 26 = .ok (.getfield 43, 3) := by decide +kernel
theorem dX11_force_29 : decode cX11_force 29 = .ok (.iload_n 1, 1) := by decide +kernel
theorem dX11_force_30 : decode cX11_force 30 = .ok (.putfield 141, 3) := by decide +kernel
theorem dX11_force_33 : decode cX11_force 33 = .ok (.iload_n 2, 1) := by decide +kernel
theorem dX11_force_34 : decode cX11_force 34 = .ok (.ireturn, 1) := by decide +kernel
def x_force (N : Nat) (a1 : Int) (M : jMem) : Option (Int × jMem) := (x_isWithin N a1 ((-1)) ((w32 (((M 0 6)) - 1))) M).bind fun r1 => (if r1 = 0 then some ((-2), M) else jlt ((M 14 3)) fun v2 => jlt (up M 14 3 a1) fun M3 => some (v2, M3))
theorem c_x_force {l : Launch} {g : jG} (N : Nat) (a1 : Int) (M : jMem)  : ∀ o, x_force N a1 M = some o → jCt l g jTX yX11_force cX11_force 3 (some .int) 0 3 [(2, 0), (0, a1)] M o := by
  refine jMet (own := RX11) (em := id) (L := [(0, 2, 0), (1, 0, a1)]) (by decide +kernel) rfl (Nat.le_of_ble_eq_true rfl) rfl (fun K hR => ?_)
  unfold x_force
  refine z_iload_n (pc := 0) hR 1 dX11_force_0 rfl rfl ?_
  refine z_iconst (pc := 1) hR dX11_force_1 rfl ?_
  refine z_aload_n (pc := 2) hR 0 dX11_force_2 rfl rfl ?_
  refine z_geti (pc := 3) hR (j := 6) jf_RX11_126 kxo_0 (by decide) rfl rfl dX11_force_3 ?_
  refine z_iconst (pc := 6) hR dX11_force_6 rfl ?_
  refine z_isub (pc := 7) hR dX11_force_7 ?_
  refine z_callsp (pc := 8) hR (As := [(0, a1), (0, (-1)), (0, (w32 (((M 0 6)) - 1)))]) (st := []) jm_X11_isWithin jl_RX11_137 (by decide) (c_x_isWithin N a1 ((-1)) ((w32 (((M 0 6)) - 1))) M) rfl (by decide) (by decide) rfl (Nat.le_of_ble_eq_true rfl) dX11_force_8 (fun r1 => ?_)
  refine z_ifne (pc := 11) (tgt := 17) hR dX11_force_11 (by decide) ?_ ?_
  · refine z_aload_n (pc := 17) hR 0 dX11_force_17 rfl rfl ?_
    refine z_getr (pc := 18) hR (c0 := 14) (r := 14) jf_RX11_43 kxo_0 (by decide) rfl rfl dX11_force_18 ?_
    refine z_geti (pc := 21) hR (j := 3) jf_RX11_141 kxo_14 (by decide) rfl rfl dX11_force_21 ?_
    refine z_let1 (fun v2 => ?_)
    refine z_istore_n (pc := 24) hR (lv' := [(2, 0, v2), (0, 2, 0), (1, 0, a1)]) dX11_force_24 rfl (by decide) rfl ?_
    refine z_aload_n (pc := 25) hR 1 dX11_force_25 rfl rfl ?_
    refine z_getr (pc := 26) hR (c0 := 14) (r := 14) jf_RX11_43 kxo_0 (by decide) rfl rfl dX11_force_26 ?_
    refine z_iload_n (pc := 29) hR 2 dX11_force_29 rfl rfl ?_
    refine z_puti (pc := 30) hR (j := 3) jp_RX11_141 kxo_14 (by decide) rfl rfl rfl rfl dX11_force_30 (fun M3 => ?_)
    refine z_iload_n (pc := 33) hR 0 dX11_force_33 rfl rfl ?_
    exact z_ireturn (pc := 34) hR rfl rfl dX11_force_34 rfl
  · refine z_bipush (pc := 14) hR dX11_force_14 rfl ?_
    exact z_ireturn (pc := 16) hR rfl rfl dX11_force_16 rfl
theorem dX11_isFarm_0 : decode cX11_isFarm 0 = .ok (.iload_n 1, 1) := by decide +kernel
theorem dX11_isFarm_1 : decode cX11_isFarm 1 = .ok (.ifCond .lt 21, 3) := by decide +kernel
theorem dX11_isFarm_4 : decode cX11_isFarm 4 = .ok (.iload_n 1, 1) := by decide +kernel
theorem dX11_isFarm_5 : decode cX11_isFarm 5 = .ok (.aload_n 0, 1) := by decide +kernel
theorem dX11_isFarm_6 : decode cX11_isFarm 6 = .ok (.getfield 43, 3) := by decide +kernel
theorem dX11_isFarm_9 : decode cX11_isFarm 9 = .ok (.getfield 95, 3) := by decide +kernel
theorem dX11_isFarm_12 : decode cX11_isFarm 12 = .ok (.getfield 123, 3) := by decide +kernel
theorem dX11_isFarm_15 : decode cX11_isFarm 15 = .ok (.if_icmp .ge 7, 3) := by decide +kernel
theorem dX11_isFarm_18 : decode cX11_isFarm 18 = .ok (.iconst 1, 1) := by decide +kernel
theorem dX11_isFarm_19 : decode cX11_isFarm 19 = .ok (.goto 4, 3) := by decide +kernel
theorem dX11_isFarm_22 : decode cX11_isFarm 22 = .ok (.iconst 0, 1) := by decide +kernel
theorem dX11_isFarm_23 : decode cX11_isFarm 23 = .ok (.ireturn, 1) := by decide +kernel
def x_isFarm (N : Nat) (a1 : Int) (M : jMem) : Option Int := (if a1 < 0 then some 0 else (if a1 < (M 15 0) then some 1 else some 0))
theorem c_x_isFarm {l : Launch} {g : jG} (N : Nat) (a1 : Int) (M : jMem)  : ∀ o, x_isFarm N a1 M = some o → jCt l g jTX yX11_isFarm cX11_isFarm 2 (some .boolean) 0 1 [(2, 0), (0, a1)] M (o, M) := by
  refine jMet (own := RX11) (em := (fun r => (r, M))) (L := [(0, 2, 0), (1, 0, a1)]) (by decide +kernel) rfl (Nat.le_of_ble_eq_true rfl) rfl (fun K hR => ?_)
  unfold x_isFarm
  refine z_iload_n (pc := 0) hR 1 dX11_isFarm_0 rfl rfl ?_
  refine z_iflt (pc := 1) (tgt := 22) hR dX11_isFarm_1 (by decide) ?_ ?_
  · refine z_iconst (pc := 22) hR dX11_isFarm_22 rfl ?_
    exact z_zreturn (pc := 23) hR rfl rfl (Or.inl rfl) dX11_isFarm_23 rfl
  · refine z_iload_n (pc := 4) hR 1 dX11_isFarm_4 rfl rfl ?_
    refine z_aload_n (pc := 5) hR 0 dX11_isFarm_5 rfl rfl ?_
    refine z_getr (pc := 6) hR (c0 := 14) (r := 14) jf_RX11_43 kxo_0 (by decide) rfl rfl dX11_isFarm_6 ?_
    refine z_getr (pc := 9) hR (c0 := 1) (r := 15) jf_RX11_95 kxo_14 (by decide) rfl rfl dX11_isFarm_9 ?_
    refine z_geti (pc := 12) hR (j := 0) jf_RX11_123 kxo_15 (by decide) rfl rfl dX11_isFarm_12 ?_
    refine z_icmpge (pc := 15) (tgt := 22) hR dX11_isFarm_15 (by decide) ?_ ?_
    · refine z_iconst (pc := 22) hR dX11_isFarm_22 rfl ?_
      exact z_zreturn (pc := 23) hR rfl rfl (Or.inl rfl) dX11_isFarm_23 rfl
    · refine z_iconst (pc := 18) hR dX11_isFarm_18 rfl ?_
      refine z_goto (pc := 19) (tgt := 23) hR dX11_isFarm_19 (by decide) ?_
      exact z_zreturn (pc := 23) hR rfl rfl (Or.inr rfl) dX11_isFarm_23 rfl
theorem dX11_isWell_0 : decode cX11_isWell 0 = .ok (.aload_n 0, 1) := by decide +kernel
theorem dX11_isWell_1 : decode cX11_isWell 1 = .ok (.iload_n 1, 1) := by decide +kernel
theorem dX11_isWell_2 : decode cX11_isWell 2 = .ok (.invokevirtual 162, 3) := by decide +kernel
theorem dX11_isWell_5 : decode cX11_isWell 5 = .ok (.ireturn, 1) := by decide +kernel
def x_isWell (N : Nat) (a1 : Int) (M : jMem) : Option Int := (x_isFarm N a1 M).bind fun r1 => jchk (r1 = 0 ∨ r1 = 1) <| some r1
theorem c_x_isWell {l : Launch} {g : jG} (N : Nat) (a1 : Int) (M : jMem)  : ∀ o, x_isWell N a1 M = some o → jCt l g jTX yX11_isWell cX11_isWell 2 (some .boolean) 0 3 [(2, 0), (0, a1)] M (o, M) := by
  refine jMet (own := RX11) (em := (fun r => (r, M))) (L := [(0, 2, 0), (1, 0, a1)]) (by decide +kernel) rfl (Nat.le_of_ble_eq_true rfl) rfl (fun K hR => ?_)
  unfold x_isWell
  refine z_aload_n (pc := 0) hR 0 dX11_isWell_0 rfl rfl ?_
  refine z_iload_n (pc := 1) hR 1 dX11_isWell_1 rfl rfl ?_
  refine z_callvp (pc := 2) hR (As := [(0, a1)]) (st := []) jm_X11_isFarm jl_RX11_162 kxo_0 (by decide) rfl (by decide) (c_x_isFarm N a1 M) rfl (by decide) (by decide) rfl (Nat.le_of_ble_eq_true rfl) dX11_isWell_2 (fun r1 => ?_)
  refine z_chk (fun hc2 => ?_)
  exact z_zreturn (pc := 5) hR rfl rfl hc2 dX11_isWell_5 rfl
theorem dX7_farmThatHas_0 : decode cX7_farmThatHas 0 = .ok (.iconst 0, 1) := by decide +kernel
theorem dX7_farmThatHas_1 : decode cX7_farmThatHas 1 = .ok (.istore_n 2, 1) := by decide +kernel
theorem dX7_farmThatHas_2 : decode cX7_farmThatHas 2 = .ok (.iconst 0, 1) := by decide +kernel
theorem dX7_farmThatHas_3 : decode cX7_farmThatHas 3 = .ok (.istore_n 3, 1) := by decide +kernel
theorem dX7_farmThatHas_4 : decode cX7_farmThatHas 4 = .ok (.iload_n 3, 1) := by decide +kernel
theorem dX7_farmThatHas_5 : decode cX7_farmThatHas 5 = .ok (.aload_n 0, 1) := by decide +kernel
theorem dX7_farmThatHas_6 : decode cX7_farmThatHas 6 = .ok (.getfield 27, 3) := by decide +kernel
theorem dX7_farmThatHas_9 : decode cX7_farmThatHas 9 = .ok (.if_icmp .ge 21, 3) := by decide +kernel
theorem dX7_farmThatHas_12 : decode cX7_farmThatHas 12 = .ok (.aload_n 0, 1) := by decide +kernel
theorem dX7_farmThatHas_13 : decode cX7_farmThatHas 13 = .ok (.getfield 21, 3) := by decide +kernel
theorem dX7_farmThatHas_16 : decode cX7_farmThatHas 16 = .ok (.iload_n 3, 1) := by decide +kernel
theorem dX7_farmThatHas_17 : decode cX7_farmThatHas 17 = .ok (.iaload, 1) := by decide +kernel
theorem dX7_farmThatHas_18 : decode cX7_farmThatHas 18 = .ok (.iload_n 1, 1) := by decide +kernel
theorem dX7_farmThatHas_19 : decode cX7_farmThatHas 19 = .ok (.if_icmp .ne 5, 3) := by decide +kernel
theorem dX7_farmThatHas_22 : decode cX7_farmThatHas 22 = .ok (.iload_n 3, 1) := by decide +kernel
theorem dX7_farmThatHas_23 : decode cX7_farmThatHas 23 = .ok (.istore_n 2, 1) := by decide +kernel
theorem dX7_farmThatHas_24 : decode cX7_farmThatHas 24 = .ok (.iinc 3 1, 3) := by decide +kernel
theorem dX7_farmThatHas_27 : decode cX7_farmThatHas 27 = .ok (.goto (-23), 3) := by decide +kernel
theorem dX7_farmThatHas_30 : decode cX7_farmThatHas 30 = .ok (.iload_n 2, 1) := by decide +kernel
theorem dX7_farmThatHas_31 : decode cX7_farmThatHas 31 = .ok (.ireturn, 1) := by decide +kernel
def St_farmThatHas_L4 (N : Nat) (q : Int) (a1 : Int) (M : jMem) (h4 : (Int × Int) → Option Int) : Int × Int → Option Int
  | (x1, x2) => (if x2 < (M q 0) then jchk (0 ≤ x2 ∧ x2 < 7) <| (if (M ((q + 4)) x2) = a1 then h4 (x2, (w32 (x2 + 1))) else h4 (x1, (w32 (x2 + 1)))) else some x1)
def St_farmThatHas (N : Nat) (q a1 : Int) (M : jMem) : Option Int := jfix N (St_farmThatHas_L4 N q a1 M) (0, 0)
theorem c_St_farmThatHas {l : Launch} {g : jG} (N : Nat) (q a1 : Int) (M : jMem) (hq : jk jTX q 7) : ∀ o, St_farmThatHas N q a1 M = some o → jCt l g jTX yX7_farmThatHas cX7_farmThatHas 4 (some .int) 0 1 [(2, q), (0, a1)] M (o, M) := by
  refine jMet (own := RX7) (em := (fun r => (r, M))) (L := [(0, 2, q), (1, 0, a1)]) (by decide +kernel) rfl (Nat.le_of_ble_eq_true rfl) rfl (fun K hR => ?_)
  unfold St_farmThatHas
  refine z_iconst (pc := 0) hR dX7_farmThatHas_0 rfl ?_
  refine z_istore_n (pc := 1) hR (lv' := [(2, 0, 0), (0, 2, q), (1, 0, a1)]) dX7_farmThatHas_1 rfl (by decide) rfl ?_
  refine z_iconst (pc := 2) hR dX7_farmThatHas_2 rfl ?_
  refine z_istore_n (pc := 3) hR (lv' := [(3, 0, 0), (2, 0, 0), (0, 2, q), (1, 0, a1)]) dX7_farmThatHas_3 rfl (by decide) rfl ?_
  refine z_pick (pc := 4) (lv' := [(0, 2, q), (1, 0, a1), (2, 0, 0), (3, 0, 0)]) hR [2, 3, 1, 0] rfl ?_
  refine z_fix (σ := Int × Int) (lv := fun s => [(0, 2, q), (1, 0, a1), (2, 0, s.1), (3, 0, s.2)]) (st := fun _ => []) (M := fun _ => M) (fun h4 hh4 => ?_) N (0, 0)
  rintro ⟨x1, x2⟩
  show jZ K (fun r => (r, M)) 4 [(0, 2, q), (1, 0, a1), (2, 0, x1), (3, 0, x2)] [] M _
  unfold St_farmThatHas_L4
  refine z_iload_n (pc := 4) hR 3 dX7_farmThatHas_4 rfl rfl ?_
  refine z_aload_n (pc := 5) hR 0 dX7_farmThatHas_5 rfl rfl ?_
  refine z_geti (pc := 6) hR (j := 0) jf_RX7_27 hq (by decide) rfl rfl dX7_farmThatHas_6 ?_
  refine z_icmpge (pc := 9) (tgt := 30) hR dX7_farmThatHas_9 (by decide) ?_ ?_
  · refine z_iload_n (pc := 30) hR 2 dX7_farmThatHas_30 rfl rfl ?_
    exact z_ireturn (pc := 31) hR rfl rfl dX7_farmThatHas_31 rfl
  · refine z_aload_n (pc := 12) hR 0 dX7_farmThatHas_12 rfl rfl ?_
    refine z_getr (pc := 13) hR (c0 := 4) (r := (q + 4)) jf_RX7_21 hq (by decide) rfl rfl dX7_farmThatHas_13 ?_
    refine z_iload_n (pc := 16) hR 3 dX7_farmThatHas_16 rfl rfl ?_
    refine z_chk (fun hc3 => ?_)
    refine z_iald (pc := 17) hR (n := 7) (kf_7_has hq) hc3.1 hc3.2 dX7_farmThatHas_17 ?_
    refine z_iload_n (pc := 18) hR 1 dX7_farmThatHas_18 rfl rfl ?_
    refine z_icmpne (pc := 19) (tgt := 24) hR dX7_farmThatHas_19 (by decide) ?_ ?_
    · refine z_iinc (pc := 24) hR (j := 3) (lv' := [(3, 0, (w32 (x2 + 1))), (0, 2, q), (1, 0, a1), (2, 0, x1)]) dX7_farmThatHas_24 rfl (by decide) rfl ?_
      refine z_goto (pc := 27) (tgt := 4) hR dX7_farmThatHas_27 (by decide) ?_
      refine z_pick (pc := 4) (lv' := [(0, 2, q), (1, 0, a1), (2, 0, x1), (3, 0, (w32 (x2 + 1)))]) hR [1, 2, 3, 0] rfl ?_
      exact hh4 (x1, (w32 (x2 + 1)))
    · refine z_iload_n (pc := 22) hR 3 dX7_farmThatHas_22 rfl rfl ?_
      refine z_istore_n (pc := 23) hR (lv' := [(2, 0, x2), (0, 2, q), (1, 0, a1), (3, 0, x2)]) dX7_farmThatHas_23 rfl (by decide) rfl ?_
      refine z_iinc (pc := 24) hR (j := 3) (lv' := [(3, 0, (w32 (x2 + 1))), (2, 0, x2), (0, 2, q), (1, 0, a1)]) dX7_farmThatHas_24 rfl (by decide) rfl ?_
      refine z_goto (pc := 27) (tgt := 4) hR dX7_farmThatHas_27 (by decide) ?_
      refine z_pick (pc := 4) (lv' := [(0, 2, q), (1, 0, a1), (2, 0, x2), (3, 0, (w32 (x2 + 1)))]) hR [2, 3, 1, 0] rfl ?_
      exact hh4 (x2, (w32 (x2 + 1)))
theorem dX11_well_0 : decode cX11_well 0 = .ok (.aload_n 0, 1) := by decide +kernel
theorem dX11_well_1 : decode cX11_well 1 = .ok (.iload_n 1, 1) := by decide +kernel
theorem dX11_well_2 : decode cX11_well 2 = .ok (.invokevirtual 144, 3) := by decide +kernel
theorem dX11_well_5 : decode cX11_well 5 = .ok (.ifCond .ne 5, 3) := by decide +kernel
theorem dX11_well_8 : decode cX11_well 8 = .ok (.iconst (-1), 1) := by decide +kernel
theorem dX11_well_9 : decode cX11_well 9 = .ok (.ireturn, 1) := by decide +kernel
theorem dX11_well_10 : decode cX11_well 10 = .ok (.iload_n 2, 1) := by decide +kernel
theorem dX11_well_11 : decode cX11_well 11 = .ok (.tableswitch 80 0 3 #[29, 42, 55, 68], 29) := by decide +kernel
theorem dX11_well_40 : decode cX11_well 40 = .ok (.aload_n 0, 1) := by decide +kernel
theorem dX11_well_41 : decode cX11_well 41 = .ok (.getfield 43, 3) := by decide +kernel
theorem dX11_well_44 : decode cX11_well 44 = .ok (.getfield 102, 3) := by decide +kernel
theorem dX11_well_47 : decode cX11_well 47 = .ok (.getfield 148, 3) := by decide +kernel
theorem dX11_well_50 : decode cX11_well 50 = .ok (.iload_n 1, 1) := by decide +kernel
theorem dX11_well_51 : decode cX11_well 51 = .ok (.iaload, 1) := by decide +kernel
theorem dX11_well_52 : decode cX11_well 52 = .ok (.ireturn, 1) := by decide +kernel
theorem dX11_well_53 : decode cX11_well 53 = .ok (.aload_n 0, 1) := by decide +kernel
theorem dX11_well_54 : decode cX11_well 54 = .ok (.getfield 43, 3) := by decide +kernel
theorem dX11_well_57 : decode cX11_well 57 = .ok (.getfield 102, 3) := by decide +kernel
theorem dX11_well_60 : decode cX11_well 60 = .ok (.getfield 152, 3) := by decide +kernel
theorem dX11_well_63 : decode cX11_well 63 = .ok (.iload_n 1, 1) := by decide +kernel
theorem dX11_well_64 : decode cX11_well 64 = .ok (.iaload, 1) := by decide +kernel
theorem dX11_well_65 : decode cX11_well 65 = .ok (.ireturn, 1) := by decide +kernel
theorem dX11_well_66 : decode cX11_well 66 = .ok (.aload_n 0, 1) := by decide +kernel
theorem dX11_well_67 : decode cX11_well 67 = .ok (.getfield 43, 3) := by decide +kernel
theorem dX11_well_70 : decode cX11_well 70 = .ok (.getfield 102, 3) := by decide +kernel
theorem dX11_well_73 : decode cX11_well 73 = .ok (.getfield 155, 3) := by decide +kernel
theorem dX11_well_76 : decode cX11_well 76 = .ok (.iload_n 1, 1) := by decide +kernel
theorem dX11_well_77 : decode cX11_well 77 = .ok (.iaload, 1) := by decide +kernel
theorem dX11_well_78 : decode cX11_well 78 = .ok (.ireturn, 1) := by decide +kernel
theorem dX11_well_79 : decode cX11_well 79 = .ok (.aload_n 0, 1) := by decide +kernel
theorem dX11_well_80 : decode cX11_well 80 = .ok (.getfield 43, 3) := by decide +kernel
theorem dX11_well_83 : decode cX11_well 83 = .ok (.getfield 102, 3) := by decide +kernel
theorem dX11_well_86 : decode cX11_well 86 = .ok (.iload_n 1, 1) := by decide +kernel
theorem dX11_well_87 : decode cX11_well 87 = .ok (.invokevirtual 158, 3) := by decide +kernel
theorem dX11_well_90 : decode cX11_well 90 = .ok (.ireturn, 1) := by decide +kernel
theorem dX11_well_91 : decode cX11_well 91 = .ok (.iconst (-1), 1) := by decide +kernel
theorem dX11_well_92 : decode cX11_well 92 = .ok (.ireturn, 1) := by decide +kernel
def x_well (N : Nat) (a1 a2 : Int) (M : jMem) : Option Int := (x_isWell N a1 M).bind fun r1 => (if r1 = 0 then some ((-1)) else (if a2 = 0 then jchk (0 ≤ a1 ∧ a1 < 7) <| some ((M 22 a1)) else (if a2 = 1 then jchk (0 ≤ a1 ∧ a1 < 7) <| some ((M 23 a1)) else (if a2 = 2 then jchk (0 ≤ a1 ∧ a1 < 7) <| some ((M 24 a1)) else (if a2 = 3 then (St_farmThatHas N 21 a1 M).bind fun r9 => some r9 else some ((-1)))))))
theorem c_x_well {l : Launch} {g : jG} (N : Nat) (a1 a2 : Int) (M : jMem)  : ∀ o, x_well N a1 a2 M = some o → jCt l g jTX yX11_well cX11_well 3 (some .int) 0 5 [(2, 0), (0, a1), (0, a2)] M (o, M) := by
  refine jMet (own := RX11) (em := (fun r => (r, M))) (L := [(0, 2, 0), (1, 0, a1), (2, 0, a2)]) (by decide +kernel) rfl (Nat.le_of_ble_eq_true rfl) rfl (fun K hR => ?_)
  unfold x_well
  refine z_aload_n (pc := 0) hR 0 dX11_well_0 rfl rfl ?_
  refine z_iload_n (pc := 1) hR 1 dX11_well_1 rfl rfl ?_
  refine z_callvp (pc := 2) hR (As := [(0, a1)]) (st := []) jm_X11_isWell jl_RX11_144 kxo_0 (by decide) rfl (by decide) (c_x_isWell N a1 M) rfl (by decide) (by decide) rfl (Nat.le_of_ble_eq_true rfl) dX11_well_2 (fun r1 => ?_)
  refine z_ifne (pc := 5) (tgt := 10) hR dX11_well_5 (by decide) ?_ ?_
  · refine z_iload_n (pc := 10) hR 2 dX11_well_10 rfl rfl ?_
    refine z_tsw (pc := 11) (tgt := 40) (j := 0) (y := 0) hR dX11_well_11 rfl rfl (by decide) (by decide) ?_ (fun hs2 => ?_)
    · refine z_aload_n (pc := 40) hR 0 dX11_well_40 rfl rfl ?_
      refine z_getr (pc := 41) hR (c0 := 14) (r := 14) jf_RX11_43 kxo_0 (by decide) rfl rfl dX11_well_41 ?_
      refine z_getr (pc := 44) hR (c0 := 7) (r := 21) jf_RX11_102 kxo_14 (by decide) rfl rfl dX11_well_44 ?_
      refine z_getr (pc := 47) hR (c0 := 1) (r := 22) jf_RX11_148 kxo_21 (by decide) rfl rfl dX11_well_47 ?_
      refine z_iload_n (pc := 50) hR 1 dX11_well_50 rfl rfl ?_
      refine z_chk (fun hc3 => ?_)
      refine z_iald (pc := 51) hR (n := 7) kxa_22 hc3.1 hc3.2 dX11_well_51 ?_
      exact z_ireturn (pc := 52) hR rfl rfl dX11_well_52 rfl
    refine z_tsw (pc := 11) (tgt := 53) (j := 1) (y := 1) hR dX11_well_11 rfl rfl (by decide) (by decide) ?_ (fun hs4 => ?_)
    · refine z_aload_n (pc := 53) hR 0 dX11_well_53 rfl rfl ?_
      refine z_getr (pc := 54) hR (c0 := 14) (r := 14) jf_RX11_43 kxo_0 (by decide) rfl rfl dX11_well_54 ?_
      refine z_getr (pc := 57) hR (c0 := 7) (r := 21) jf_RX11_102 kxo_14 (by decide) rfl rfl dX11_well_57 ?_
      refine z_getr (pc := 60) hR (c0 := 2) (r := 23) jf_RX11_152 kxo_21 (by decide) rfl rfl dX11_well_60 ?_
      refine z_iload_n (pc := 63) hR 1 dX11_well_63 rfl rfl ?_
      refine z_chk (fun hc5 => ?_)
      refine z_iald (pc := 64) hR (n := 7) kxa_23 hc5.1 hc5.2 dX11_well_64 ?_
      exact z_ireturn (pc := 65) hR rfl rfl dX11_well_65 rfl
    refine z_tsw (pc := 11) (tgt := 66) (j := 2) (y := 2) hR dX11_well_11 rfl rfl (by decide) (by decide) ?_ (fun hs6 => ?_)
    · refine z_aload_n (pc := 66) hR 0 dX11_well_66 rfl rfl ?_
      refine z_getr (pc := 67) hR (c0 := 14) (r := 14) jf_RX11_43 kxo_0 (by decide) rfl rfl dX11_well_67 ?_
      refine z_getr (pc := 70) hR (c0 := 7) (r := 21) jf_RX11_102 kxo_14 (by decide) rfl rfl dX11_well_70 ?_
      refine z_getr (pc := 73) hR (c0 := 3) (r := 24) jf_RX11_155 kxo_21 (by decide) rfl rfl dX11_well_73 ?_
      refine z_iload_n (pc := 76) hR 1 dX11_well_76 rfl rfl ?_
      refine z_chk (fun hc7 => ?_)
      refine z_iald (pc := 77) hR (n := 7) kxa_24 hc7.1 hc7.2 dX11_well_77 ?_
      exact z_ireturn (pc := 78) hR rfl rfl dX11_well_78 rfl
    refine z_tsw (pc := 11) (tgt := 79) (j := 3) (y := 3) hR dX11_well_11 rfl rfl (by decide) (by decide) ?_ (fun hs8 => ?_)
    · refine z_aload_n (pc := 79) hR 0 dX11_well_79 rfl rfl ?_
      refine z_getr (pc := 80) hR (c0 := 14) (r := 14) jf_RX11_43 kxo_0 (by decide) rfl rfl dX11_well_80 ?_
      refine z_getr (pc := 83) hR (c0 := 7) (r := 21) jf_RX11_102 kxo_14 (by decide) rfl rfl dX11_well_83 ?_
      refine z_iload_n (pc := 86) hR 1 dX11_well_86 rfl rfl ?_
      refine z_callvp (pc := 87) hR (As := [(0, a1)]) (st := []) jm_X7_farmThatHas jl_RX11_158 kxo_21 (by decide) rfl (by decide) (c_St_farmThatHas N 21 a1 M kxo_21) rfl (by decide) (by decide) rfl (Nat.le_of_ble_eq_true rfl) dX11_well_87 (fun r9 => ?_)
      exact z_ireturn (pc := 90) hR rfl rfl dX11_well_90 rfl
    refine z_tswd (pc := 11) (tgt := 91) hR dX11_well_11 (by omega) (by decide) ?_
    refine z_iconst (pc := 91) hR dX11_well_91 rfl ?_
    exact z_ireturn (pc := 92) hR rfl rfl dX11_well_92 rfl
  · refine z_iconst (pc := 8) hR dX11_well_8 rfl ?_
    exact z_ireturn (pc := 9) hR rfl rfl dX11_well_9 rfl
theorem dX11_farm_0 : decode cX11_farm 0 = .ok (.aload_n 0, 1) := by decide +kernel
theorem dX11_farm_1 : decode cX11_farm 1 = .ok (.iload_n 1, 1) := by decide +kernel
theorem dX11_farm_2 : decode cX11_farm 2 = .ok (.invokevirtual 162, 3) := by decide +kernel
theorem dX11_farm_5 : decode cX11_farm 5 = .ok (.ifCond .ne 5, 3) := by decide +kernel
theorem dX11_farm_8 : decode cX11_farm 8 = .ok (.iconst (-1), 1) := by decide +kernel
theorem dX11_farm_9 : decode cX11_farm 9 = .ok (.ireturn, 1) := by decide +kernel
theorem dX11_farm_10 : decode cX11_farm 10 = .ok (.iload_n 2, 1) := by decide +kernel
theorem dX11_farm_11 : decode cX11_farm 11 = .ok (.tableswitch 81 0 3 #[29, 42, 55, 68], 29) := by decide +kernel
theorem dX11_farm_40 : decode cX11_farm 40 = .ok (.aload_n 0, 1) := by decide +kernel
theorem dX11_farm_41 : decode cX11_farm 41 = .ok (.getfield 43, 3) := by decide +kernel
theorem dX11_farm_44 : decode cX11_farm 44 = .ok (.getfield 95, 3) := by decide +kernel
theorem dX11_farm_47 : decode cX11_farm 47 = .ok (.getfield 165, 3) := by decide +kernel
theorem dX11_farm_50 : decode cX11_farm 50 = .ok (.iload_n 1, 1) := by decide +kernel
theorem dX11_farm_51 : decode cX11_farm 51 = .ok (.iaload, 1) := by decide +kernel
theorem dX11_farm_52 : decode cX11_farm 52 = .ok (.ireturn, 1) := by decide +kernel
theorem dX11_farm_53 : decode cX11_farm 53 = .ok (.aload_n 0, 1) := by decide +kernel
theorem dX11_farm_54 : decode cX11_farm 54 = .ok (.getfield 43, 3) := by decide +kernel
theorem dX11_farm_57 : decode cX11_farm 57 = .ok (.getfield 102, 3) := by decide +kernel
theorem dX11_farm_60 : decode cX11_farm 60 = .ok (.getfield 168, 3) := by decide +kernel
theorem dX11_farm_63 : decode cX11_farm 63 = .ok (.iload_n 1, 1) := by decide +kernel
theorem dX11_farm_64 : decode cX11_farm 64 = .ok (.iaload, 1) := by decide +kernel
theorem dX11_farm_65 : decode cX11_farm 65 = .ok (.ireturn, 1) := by decide +kernel
theorem dX11_farm_66 : decode cX11_farm 66 = .ok (.aload_n 0, 1) := by decide +kernel
theorem dX11_farm_67 : decode cX11_farm 67 = .ok (.getfield 43, 3) := by decide +kernel
theorem dX11_farm_70 : decode cX11_farm 70 = .ok (.getfield 102, 3) := by decide +kernel
theorem dX11_farm_73 : decode cX11_farm 73 = .ok (.getfield 171, 3) := by decide +kernel
theorem dX11_farm_76 : decode cX11_farm 76 = .ok (.iload_n 1, 1) := by decide +kernel
theorem dX11_farm_77 : decode cX11_farm 77 = .ok (.iaload, 1) := by decide +kernel
theorem dX11_farm_78 : decode cX11_farm 78 = .ok (.ireturn, 1) := by decide +kernel
theorem dX11_farm_79 : decode cX11_farm 79 = .ok (.aload_n 0, 1) := by decide +kernel
theorem dX11_farm_80 : decode cX11_farm 80 = .ok (.getfield 43, 3) := by decide +kernel
theorem dX11_farm_83 : decode cX11_farm 83 = .ok (.getfield 95, 3) := by decide +kernel
theorem dX11_farm_86 : decode cX11_farm 86 = .ok (.getfield 174, 3) := by decide +kernel
theorem dX11_farm_89 : decode cX11_farm 89 = .ok (.iload_n 1, 1) := by decide +kernel
theorem dX11_farm_90 : decode cX11_farm 90 = .ok (.iaload, 1) := by decide +kernel
theorem dX11_farm_91 : decode cX11_farm 91 = .ok (.ireturn, 1) := by decide +kernel
theorem dX11_farm_92 : decode cX11_farm 92 = .ok (.iconst (-1), 1) := by decide +kernel
theorem dX11_farm_93 : decode cX11_farm 93 = .ok (.ireturn, 1) := by decide +kernel
def x_farm (N : Nat) (a1 a2 : Int) (M : jMem) : Option Int := (x_isFarm N a1 M).bind fun r1 => (if r1 = 0 then some ((-1)) else (if a2 = 0 then jchk (0 ≤ a1 ∧ a1 < 7) <| some ((M 18 a1)) else (if a2 = 1 then jchk (0 ≤ a1 ∧ a1 < 7) <| some ((M 26 a1)) else (if a2 = 2 then jchk (0 ≤ a1 ∧ a1 < 7) <| some ((M 25 a1)) else (if a2 = 3 then jchk (0 ≤ a1 ∧ a1 < 7) <| some ((M 20 a1)) else some ((-1)))))))
theorem c_x_farm {l : Launch} {g : jG} (N : Nat) (a1 a2 : Int) (M : jMem)  : ∀ o, x_farm N a1 a2 M = some o → jCt l g jTX yX11_farm cX11_farm 3 (some .int) 0 3 [(2, 0), (0, a1), (0, a2)] M (o, M) := by
  refine jMet (own := RX11) (em := (fun r => (r, M))) (L := [(0, 2, 0), (1, 0, a1), (2, 0, a2)]) (by decide +kernel) rfl (Nat.le_of_ble_eq_true rfl) rfl (fun K hR => ?_)
  unfold x_farm
  refine z_aload_n (pc := 0) hR 0 dX11_farm_0 rfl rfl ?_
  refine z_iload_n (pc := 1) hR 1 dX11_farm_1 rfl rfl ?_
  refine z_callvp (pc := 2) hR (As := [(0, a1)]) (st := []) jm_X11_isFarm jl_RX11_162 kxo_0 (by decide) rfl (by decide) (c_x_isFarm N a1 M) rfl (by decide) (by decide) rfl (Nat.le_of_ble_eq_true rfl) dX11_farm_2 (fun r1 => ?_)
  refine z_ifne (pc := 5) (tgt := 10) hR dX11_farm_5 (by decide) ?_ ?_
  · refine z_iload_n (pc := 10) hR 2 dX11_farm_10 rfl rfl ?_
    refine z_tsw (pc := 11) (tgt := 40) (j := 0) (y := 0) hR dX11_farm_11 rfl rfl (by decide) (by decide) ?_ (fun hs2 => ?_)
    · refine z_aload_n (pc := 40) hR 0 dX11_farm_40 rfl rfl ?_
      refine z_getr (pc := 41) hR (c0 := 14) (r := 14) jf_RX11_43 kxo_0 (by decide) rfl rfl dX11_farm_41 ?_
      refine z_getr (pc := 44) hR (c0 := 1) (r := 15) jf_RX11_95 kxo_14 (by decide) rfl rfl dX11_farm_44 ?_
      refine z_getr (pc := 47) hR (c0 := 3) (r := 18) jf_RX11_165 kxo_15 (by decide) rfl rfl dX11_farm_47 ?_
      refine z_iload_n (pc := 50) hR 1 dX11_farm_50 rfl rfl ?_
      refine z_chk (fun hc3 => ?_)
      refine z_iald (pc := 51) hR (n := 7) kxa_18 hc3.1 hc3.2 dX11_farm_51 ?_
      exact z_ireturn (pc := 52) hR rfl rfl dX11_farm_52 rfl
    refine z_tsw (pc := 11) (tgt := 53) (j := 1) (y := 1) hR dX11_farm_11 rfl rfl (by decide) (by decide) ?_ (fun hs4 => ?_)
    · refine z_aload_n (pc := 53) hR 0 dX11_farm_53 rfl rfl ?_
      refine z_getr (pc := 54) hR (c0 := 14) (r := 14) jf_RX11_43 kxo_0 (by decide) rfl rfl dX11_farm_54 ?_
      refine z_getr (pc := 57) hR (c0 := 7) (r := 21) jf_RX11_102 kxo_14 (by decide) rfl rfl dX11_farm_57 ?_
      refine z_getr (pc := 60) hR (c0 := 5) (r := 26) jf_RX11_168 kxo_21 (by decide) rfl rfl dX11_farm_60 ?_
      refine z_iload_n (pc := 63) hR 1 dX11_farm_63 rfl rfl ?_
      refine z_chk (fun hc5 => ?_)
      refine z_iald (pc := 64) hR (n := 7) kxa_26 hc5.1 hc5.2 dX11_farm_64 ?_
      exact z_ireturn (pc := 65) hR rfl rfl dX11_farm_65 rfl
    refine z_tsw (pc := 11) (tgt := 66) (j := 2) (y := 2) hR dX11_farm_11 rfl rfl (by decide) (by decide) ?_ (fun hs6 => ?_)
    · refine z_aload_n (pc := 66) hR 0 dX11_farm_66 rfl rfl ?_
      refine z_getr (pc := 67) hR (c0 := 14) (r := 14) jf_RX11_43 kxo_0 (by decide) rfl rfl dX11_farm_67 ?_
      refine z_getr (pc := 70) hR (c0 := 7) (r := 21) jf_RX11_102 kxo_14 (by decide) rfl rfl dX11_farm_70 ?_
      refine z_getr (pc := 73) hR (c0 := 4) (r := 25) jf_RX11_171 kxo_21 (by decide) rfl rfl dX11_farm_73 ?_
      refine z_iload_n (pc := 76) hR 1 dX11_farm_76 rfl rfl ?_
      refine z_chk (fun hc7 => ?_)
      refine z_iald (pc := 77) hR (n := 7) kxa_25 hc7.1 hc7.2 dX11_farm_77 ?_
      exact z_ireturn (pc := 78) hR rfl rfl dX11_farm_78 rfl
    refine z_tsw (pc := 11) (tgt := 79) (j := 3) (y := 3) hR dX11_farm_11 rfl rfl (by decide) (by decide) ?_ (fun hs8 => ?_)
    · refine z_aload_n (pc := 79) hR 0 dX11_farm_79 rfl rfl ?_
      refine z_getr (pc := 80) hR (c0 := 14) (r := 14) jf_RX11_43 kxo_0 (by decide) rfl rfl dX11_farm_80 ?_
      refine z_getr (pc := 83) hR (c0 := 1) (r := 15) jf_RX11_95 kxo_14 (by decide) rfl rfl dX11_farm_83 ?_
      refine z_getr (pc := 86) hR (c0 := 5) (r := 20) jf_RX11_174 kxo_15 (by decide) rfl rfl dX11_farm_86 ?_
      refine z_iload_n (pc := 89) hR 1 dX11_farm_89 rfl rfl ?_
      refine z_chk (fun hc9 => ?_)
      refine z_iald (pc := 90) hR (n := 7) kxa_20 hc9.1 hc9.2 dX11_farm_90 ?_
      exact z_ireturn (pc := 91) hR rfl rfl dX11_farm_91 rfl
    refine z_tswd (pc := 11) (tgt := 92) hR dX11_farm_11 (by omega) (by decide) ?_
    refine z_iconst (pc := 92) hR dX11_farm_92 rfl ?_
    exact z_ireturn (pc := 93) hR rfl rfl dX11_farm_93 rfl
  · refine z_iconst (pc := 8) hR dX11_farm_8 rfl ?_
    exact z_ireturn (pc := 9) hR rfl rfl dX11_farm_9 rfl
theorem dX11_hasParish_0 : decode cX11_hasParish 0 = .ok (.aload_n 0, 1) := by decide +kernel
theorem dX11_hasParish_1 : decode cX11_hasParish 1 = .ok (.getfield 43, 3) := by decide +kernel
theorem dX11_hasParish_4 : decode cX11_hasParish 4 = .ok (.getfield 95, 3) := by decide +kernel
theorem dX11_hasParish_7 : decode cX11_hasParish 7 = .ok (.getfield 123, 3) := by decide +kernel
theorem dX11_hasParish_10 : decode cX11_hasParish 10 = .ok (.ifCond .le 7, 3) := by decide +kernel
theorem dX11_hasParish_13 : decode cX11_hasParish 13 = .ok (.iconst 1, 1) := by decide +kernel
theorem dX11_hasParish_14 : decode cX11_hasParish 14 = .ok (.goto 4, 3) := by decide +kernel
theorem dX11_hasParish_17 : decode cX11_hasParish 17 = .ok (.iconst 0, 1) := by decide +kernel
theorem dX11_hasParish_18 : decode cX11_hasParish 18 = .ok (.ireturn, 1) := by decide +kernel
def x_hasParish (N : Nat) (M : jMem) : Option Int := (if 0 < (M 15 0) then some 1 else some 0)
theorem c_x_hasParish {l : Launch} {g : jG} (N : Nat) (M : jMem)  : ∀ o, x_hasParish N  M = some o → jCt l g jTX yX11_hasParish cX11_hasParish 1 (some .boolean) 0 1 [(2, 0)] M (o, M) := by
  refine jMet (own := RX11) (em := (fun r => (r, M))) (L := [(0, 2, 0)]) (by decide +kernel) rfl (Nat.le_of_ble_eq_true rfl) rfl (fun K hR => ?_)
  unfold x_hasParish
  refine z_aload_n (pc := 0) hR 0 dX11_hasParish_0 rfl rfl ?_
  refine z_getr (pc := 1) hR (c0 := 14) (r := 14) jf_RX11_43 kxo_0 (by decide) rfl rfl dX11_hasParish_1 ?_
  refine z_getr (pc := 4) hR (c0 := 1) (r := 15) jf_RX11_95 kxo_14 (by decide) rfl rfl dX11_hasParish_4 ?_
  refine z_geti (pc := 7) hR (j := 0) jf_RX11_123 kxo_15 (by decide) rfl rfl dX11_hasParish_7 ?_
  refine z_ifle (pc := 10) (tgt := 17) hR dX11_hasParish_10 (by decide) ?_ ?_
  · refine z_iconst (pc := 17) hR dX11_hasParish_17 rfl ?_
    exact z_zreturn (pc := 18) hR rfl rfl (Or.inl rfl) dX11_hasParish_18 rfl
  · refine z_iconst (pc := 13) hR dX11_hasParish_13 rfl ?_
    refine z_goto (pc := 14) (tgt := 18) hR dX11_hasParish_14 (by decide) ?_
    exact z_zreturn (pc := 18) hR rfl rfl (Or.inr rfl) dX11_hasParish_18 rfl
theorem dX7_lieNumber_0 : decode cX7_lieNumber 0 = .ok (.iconst 0, 1) := by decide +kernel
theorem dX7_lieNumber_1 : decode cX7_lieNumber 1 = .ok (.istore_n 1, 1) := by decide +kernel
theorem dX7_lieNumber_2 : decode cX7_lieNumber 2 = .ok (.iconst 0, 1) := by decide +kernel
theorem dX7_lieNumber_3 : decode cX7_lieNumber 3 = .ok (.istore_n 2, 1) := by decide +kernel
theorem dX7_lieNumber_4 : decode cX7_lieNumber 4 = .ok (.iload_n 2, 1) := by decide +kernel
theorem dX7_lieNumber_5 : decode cX7_lieNumber 5 = .ok (.aload_n 0, 1) := by decide +kernel
theorem dX7_lieNumber_6 : decode cX7_lieNumber 6 = .ok (.getfield 27, 3) := by decide +kernel
theorem dX7_lieNumber_9 : decode cX7_lieNumber 9 = .ok (.if_icmp .ge 23, 3) := by decide +kernel
theorem dX7_lieNumber_12 : decode cX7_lieNumber 12 = .ok (.iload_n 1, 1) := by decide +kernel
theorem dX7_lieNumber_13 : decode cX7_lieNumber 13 = .ok (.bipush 10, 2) := by decide +kernel
theorem dX7_lieNumber_15 : decode cX7_lieNumber 15 = .ok (.imul, 1) := by decide +kernel
theorem dX7_lieNumber_16 : decode cX7_lieNumber 16 = .ok (.aload_n 0, 1) := by decide +kernel
theorem dX7_lieNumber_17 : decode cX7_lieNumber 17 = .ok (.getfield 21, 3) := by decide +kernel
theorem dX7_lieNumber_20 : decode cX7_lieNumber 20 = .ok (.iload_n 2, 1) := by decide +kernel
theorem dX7_lieNumber_21 : decode cX7_lieNumber 21 = .ok (.iaload, 1) := by decide +kernel
theorem dX7_lieNumber_22 : decode cX7_lieNumber 22 = .ok (.iadd, 1) := by decide +kernel
theorem dX7_lieNumber_23 : decode cX7_lieNumber 23 = .ok (.iconst 1, 1) := by decide +kernel
theorem dX7_lieNumber_24 : decode cX7_lieNumber 24 = .ok (.iadd, 1) := by decide +kernel
theorem dX7_lieNumber_25 : decode cX7_lieNumber 25 = .ok (.istore_n 1, 1) := by decide +kernel
theorem dX7_lieNumber_26 : decode cX7_lieNumber 26 = .ok (.iinc 2 1, 3) := by decide +kernel
theorem dX7_lieNumber_29 : decode cX7_lieNumber 29 = .ok (.goto (-25), 3) := by decide +kernel
theorem dX7_lieNumber_32 : decode cX7_lieNumber 32 = .ok (.iload_n 1, 1) := by decide +kernel
theorem dX7_lieNumber_33 : decode cX7_lieNumber 33 = .ok (.ireturn, 1) := by decide +kernel
def St_lieNumber_L4 (N : Nat) (q : Int) (M : jMem) (h4 : (Int × Int) → Option Int) : Int × Int → Option Int
  | (x1, x2) => (if x2 < (M q 0) then jchk (0 ≤ x2 ∧ x2 < 7) <| jlt ((w32 (((w32 (((w32 (x1 * 10))) + ((M ((q + 4)) x2))))) + 1))) fun v4 => h4 (v4, (w32 (x2 + 1))) else some x1)
def St_lieNumber (N : Nat) (q : Int) (M : jMem) : Option Int := jfix N (St_lieNumber_L4 N q M) (0, 0)
theorem c_St_lieNumber {l : Launch} {g : jG} (N : Nat) (q : Int) (M : jMem) (hq : jk jTX q 7) : ∀ o, St_lieNumber N q M = some o → jCt l g jTX yX7_lieNumber cX7_lieNumber 3 (some .int) 0 1 [(2, q)] M (o, M) := by
  refine jMet (own := RX7) (em := (fun r => (r, M))) (L := [(0, 2, q)]) (by decide +kernel) rfl (Nat.le_of_ble_eq_true rfl) rfl (fun K hR => ?_)
  unfold St_lieNumber
  refine z_iconst (pc := 0) hR dX7_lieNumber_0 rfl ?_
  refine z_istore_n (pc := 1) hR (lv' := [(1, 0, 0), (0, 2, q)]) dX7_lieNumber_1 rfl (by decide) rfl ?_
  refine z_iconst (pc := 2) hR dX7_lieNumber_2 rfl ?_
  refine z_istore_n (pc := 3) hR (lv' := [(2, 0, 0), (1, 0, 0), (0, 2, q)]) dX7_lieNumber_3 rfl (by decide) rfl ?_
  refine z_pick (pc := 4) (lv' := [(0, 2, q), (1, 0, 0), (2, 0, 0)]) hR [2, 1, 0] rfl ?_
  refine z_fix (σ := Int × Int) (lv := fun s => [(0, 2, q), (1, 0, s.1), (2, 0, s.2)]) (st := fun _ => []) (M := fun _ => M) (fun h4 hh4 => ?_) N (0, 0)
  rintro ⟨x1, x2⟩
  show jZ K (fun r => (r, M)) 4 [(0, 2, q), (1, 0, x1), (2, 0, x2)] [] M _
  unfold St_lieNumber_L4
  refine z_iload_n (pc := 4) hR 2 dX7_lieNumber_4 rfl rfl ?_
  refine z_aload_n (pc := 5) hR 0 dX7_lieNumber_5 rfl rfl ?_
  refine z_geti (pc := 6) hR (j := 0) jf_RX7_27 hq (by decide) rfl rfl dX7_lieNumber_6 ?_
  refine z_icmpge (pc := 9) (tgt := 32) hR dX7_lieNumber_9 (by decide) ?_ ?_
  · refine z_iload_n (pc := 32) hR 1 dX7_lieNumber_32 rfl rfl ?_
    exact z_ireturn (pc := 33) hR rfl rfl dX7_lieNumber_33 rfl
  · refine z_iload_n (pc := 12) hR 1 dX7_lieNumber_12 rfl rfl ?_
    refine z_bipush (pc := 13) hR dX7_lieNumber_13 rfl ?_
    refine z_imul (pc := 15) hR dX7_lieNumber_15 ?_
    refine z_aload_n (pc := 16) hR 0 dX7_lieNumber_16 rfl rfl ?_
    refine z_getr (pc := 17) hR (c0 := 4) (r := (q + 4)) jf_RX7_21 hq (by decide) rfl rfl dX7_lieNumber_17 ?_
    refine z_iload_n (pc := 20) hR 2 dX7_lieNumber_20 rfl rfl ?_
    refine z_chk (fun hc3 => ?_)
    refine z_iald (pc := 21) hR (n := 7) (kf_7_has hq) hc3.1 hc3.2 dX7_lieNumber_21 ?_
    refine z_iadd (pc := 22) hR dX7_lieNumber_22 ?_
    refine z_iconst (pc := 23) hR dX7_lieNumber_23 rfl ?_
    refine z_iadd (pc := 24) hR dX7_lieNumber_24 ?_
    refine z_let1 (fun v4 => ?_)
    refine z_istore_n (pc := 25) hR (lv' := [(1, 0, v4), (0, 2, q), (2, 0, x2)]) dX7_lieNumber_25 rfl (by decide) rfl ?_
    refine z_iinc (pc := 26) hR (j := 2) (lv' := [(2, 0, (w32 (x2 + 1))), (1, 0, v4), (0, 2, q)]) dX7_lieNumber_26 rfl (by decide) rfl ?_
    refine z_goto (pc := 29) (tgt := 4) hR dX7_lieNumber_29 (by decide) ?_
    refine z_pick (pc := 4) (lv' := [(0, 2, q), (1, 0, v4), (2, 0, (w32 (x2 + 1)))]) hR [2, 1, 0] rfl ?_
    exact hh4 (v4, (w32 (x2 + 1)))
theorem dX11_lie_0 : decode cX11_lie 0 = .ok (.aload_n 0, 1) := by decide +kernel
theorem dX11_lie_1 : decode cX11_lie 1 = .ok (.invokevirtual 177, 3) := by decide +kernel
theorem dX11_lie_4 : decode cX11_lie 4 = .ok (.ifCond .eq 16, 3) := by decide +kernel
theorem dX11_lie_7 : decode cX11_lie 7 = .ok (.aload_n 0, 1) := by decide +kernel
theorem dX11_lie_8 : decode cX11_lie 8 = .ok (.getfield 43, 3) := by decide +kernel
theorem dX11_lie_11 : decode cX11_lie 11 = .ok (.getfield 102, 3) := by decide +kernel
theorem dX11_lie_14 : decode cX11_lie 14 = .ok (.invokevirtual 181, 3) := by decide +kernel
theorem dX11_lie_17 : decode cX11_lie 17 = .ok (.goto 4, 3) := by decide +kernel
theorem dX11_lie_20 : decode cX11_lie 20 = .ok (.iconst (-1), 1) := by decide +kernel
theorem dX11_lie_21 : decode cX11_lie 21 = .ok (.ireturn, 1) := by decide +kernel
def x_lie (N : Nat) (M : jMem) : Option Int := (x_hasParish N M).bind fun r1 => (if r1 = 0 then some ((-1)) else (St_lieNumber N 21 M).bind fun r2 => some r2)
theorem c_x_lie {l : Launch} {g : jG} (N : Nat) (M : jMem)  : ∀ o, x_lie N  M = some o → jCt l g jTX yX11_lie cX11_lie 1 (some .int) 0 3 [(2, 0)] M (o, M) := by
  refine jMet (own := RX11) (em := (fun r => (r, M))) (L := [(0, 2, 0)]) (by decide +kernel) rfl (Nat.le_of_ble_eq_true rfl) rfl (fun K hR => ?_)
  unfold x_lie
  refine z_aload_n (pc := 0) hR 0 dX11_lie_0 rfl rfl ?_
  refine z_callvp (pc := 1) hR (As := []) (st := []) jm_X11_hasParish jl_RX11_177 kxo_0 (by decide) rfl (by decide) (c_x_hasParish N M) rfl (by decide) (by decide) rfl (Nat.le_of_ble_eq_true rfl) dX11_lie_1 (fun r1 => ?_)
  refine z_ifeq (pc := 4) (tgt := 20) hR dX11_lie_4 (by decide) ?_ ?_
  · refine z_iconst (pc := 20) hR dX11_lie_20 rfl ?_
    exact z_ireturn (pc := 21) hR rfl rfl dX11_lie_21 rfl
  · refine z_aload_n (pc := 7) hR 0 dX11_lie_7 rfl rfl ?_
    refine z_getr (pc := 8) hR (c0 := 14) (r := 14) jf_RX11_43 kxo_0 (by decide) rfl rfl dX11_lie_8 ?_
    refine z_getr (pc := 11) hR (c0 := 7) (r := 21) jf_RX11_102 kxo_14 (by decide) rfl rfl dX11_lie_11 ?_
    refine z_callvp (pc := 14) hR (As := []) (st := []) jm_X7_lieNumber jl_RX11_181 kxo_21 (by decide) rfl (by decide) (c_St_lieNumber N 21 M kxo_21) rfl (by decide) (by decide) rfl (Nat.le_of_ble_eq_true rfl) dX11_lie_14 (fun r2 => ?_)
    refine z_goto (pc := 17) (tgt := 21) hR dX11_lie_17 (by decide) ?_
    exact z_ireturn (pc := 21) hR rfl rfl dX11_lie_21 rfl
theorem dX7_homeBits_0 : decode cX7_homeBits 0 = .ok (.iconst 0, 1) := by decide +kernel
theorem dX7_homeBits_1 : decode cX7_homeBits 1 = .ok (.istore_n 1, 1) := by decide +kernel
theorem dX7_homeBits_2 : decode cX7_homeBits 2 = .ok (.iconst 0, 1) := by decide +kernel
theorem dX7_homeBits_3 : decode cX7_homeBits 3 = .ok (.istore_n 2, 1) := by decide +kernel
theorem dX7_homeBits_4 : decode cX7_homeBits 4 = .ok (.iload_n 2, 1) := by decide +kernel
theorem dX7_homeBits_5 : decode cX7_homeBits 5 = .ok (.aload_n 0, 1) := by decide +kernel
theorem dX7_homeBits_6 : decode cX7_homeBits 6 = .ok (.getfield 27, 3) := by decide +kernel
theorem dX7_homeBits_9 : decode cX7_homeBits 9 = .ok (.if_icmp .ge 25, 3) := by decide +kernel
theorem dX7_homeBits_12 : decode cX7_homeBits 12 = .ok (.aload_n 0, 1) := by decide +kernel
theorem dX7_homeBits_13 : decode cX7_homeBits 13 = .ok (.getfield 21, 3) := by decide +kernel
theorem dX7_homeBits_16 : decode cX7_homeBits 16 = .ok (.iload_n 2, 1) := by decide +kernel
theorem dX7_homeBits_17 : decode cX7_homeBits 17 = .ok (.iaload, 1) := by decide +kernel
theorem dX7_homeBits_18 : decode cX7_homeBits 18 = .ok (.iload_n 2, 1) := by decide +kernel
theorem dX7_homeBits_19 : decode cX7_homeBits 19 = .ok (.if_icmp .ne 9, 3) := by decide +kernel
theorem dX7_homeBits_22 : decode cX7_homeBits 22 = .ok (.iload_n 1, 1) := by decide +kernel
theorem dX7_homeBits_23 : decode cX7_homeBits 23 = .ok (.iconst 1, 1) := by decide +kernel
theorem dX7_homeBits_24 : decode cX7_homeBits 24 = .ok (.iload_n 2, 1) := by decide +kernel
theorem dX7_homeBits_25 : decode cX7_homeBits 25 = .ok (.ishl, 1) := by decide +kernel
theorem dX7_homeBits_26 : decode cX7_homeBits 26 = .ok (.ior, 1) := by decide +kernel
theorem dX7_homeBits_27 : decode cX7_homeBits 27 = .ok (.istore_n 1, 1) := by decide +kernel
theorem dX7_homeBits_28 : decode cX7_homeBits 28 = .ok (.iinc 2 1, 3) := by decide +kernel
theorem dX7_homeBits_31 : decode cX7_homeBits 31 = .ok (.goto (-27), 3) := by decide +kernel
theorem dX7_homeBits_34 : decode cX7_homeBits 34 = .ok (.iload_n 1, 1) := by decide +kernel
theorem dX7_homeBits_35 : decode cX7_homeBits 35 = .ok (.ireturn, 1) := by decide +kernel
def St_homeBits_L4 (N : Nat) (q : Int) (M : jMem) (h4 : (Int × Int) → Option Int) : Int × Int → Option Int
  | (x1, x2) => (if x2 < (M q 0) then jchk (0 ≤ x2 ∧ x2 < 7) <| (if (M ((q + 4)) x2) = x2 then jlt ((jor x1 ((jshl 1 x2)))) fun v4 => h4 (v4, (w32 (x2 + 1))) else h4 (x1, (w32 (x2 + 1)))) else some x1)
def St_homeBits (N : Nat) (q : Int) (M : jMem) : Option Int := jfix N (St_homeBits_L4 N q M) (0, 0)
theorem c_St_homeBits {l : Launch} {g : jG} (N : Nat) (q : Int) (M : jMem) (hq : jk jTX q 7) : ∀ o, St_homeBits N q M = some o → jCt l g jTX yX7_homeBits cX7_homeBits 3 (some .int) 0 1 [(2, q)] M (o, M) := by
  refine jMet (own := RX7) (em := (fun r => (r, M))) (L := [(0, 2, q)]) (by decide +kernel) rfl (Nat.le_of_ble_eq_true rfl) rfl (fun K hR => ?_)
  unfold St_homeBits
  refine z_iconst (pc := 0) hR dX7_homeBits_0 rfl ?_
  refine z_istore_n (pc := 1) hR (lv' := [(1, 0, 0), (0, 2, q)]) dX7_homeBits_1 rfl (by decide) rfl ?_
  refine z_iconst (pc := 2) hR dX7_homeBits_2 rfl ?_
  refine z_istore_n (pc := 3) hR (lv' := [(2, 0, 0), (1, 0, 0), (0, 2, q)]) dX7_homeBits_3 rfl (by decide) rfl ?_
  refine z_pick (pc := 4) (lv' := [(0, 2, q), (1, 0, 0), (2, 0, 0)]) hR [2, 1, 0] rfl ?_
  refine z_fix (σ := Int × Int) (lv := fun s => [(0, 2, q), (1, 0, s.1), (2, 0, s.2)]) (st := fun _ => []) (M := fun _ => M) (fun h4 hh4 => ?_) N (0, 0)
  rintro ⟨x1, x2⟩
  show jZ K (fun r => (r, M)) 4 [(0, 2, q), (1, 0, x1), (2, 0, x2)] [] M _
  unfold St_homeBits_L4
  refine z_iload_n (pc := 4) hR 2 dX7_homeBits_4 rfl rfl ?_
  refine z_aload_n (pc := 5) hR 0 dX7_homeBits_5 rfl rfl ?_
  refine z_geti (pc := 6) hR (j := 0) jf_RX7_27 hq (by decide) rfl rfl dX7_homeBits_6 ?_
  refine z_icmpge (pc := 9) (tgt := 34) hR dX7_homeBits_9 (by decide) ?_ ?_
  · refine z_iload_n (pc := 34) hR 1 dX7_homeBits_34 rfl rfl ?_
    exact z_ireturn (pc := 35) hR rfl rfl dX7_homeBits_35 rfl
  · refine z_aload_n (pc := 12) hR 0 dX7_homeBits_12 rfl rfl ?_
    refine z_getr (pc := 13) hR (c0 := 4) (r := (q + 4)) jf_RX7_21 hq (by decide) rfl rfl dX7_homeBits_13 ?_
    refine z_iload_n (pc := 16) hR 2 dX7_homeBits_16 rfl rfl ?_
    refine z_chk (fun hc3 => ?_)
    refine z_iald (pc := 17) hR (n := 7) (kf_7_has hq) hc3.1 hc3.2 dX7_homeBits_17 ?_
    refine z_iload_n (pc := 18) hR 2 dX7_homeBits_18 rfl rfl ?_
    refine z_icmpne (pc := 19) (tgt := 28) hR dX7_homeBits_19 (by decide) ?_ ?_
    · refine z_iinc (pc := 28) hR (j := 2) (lv' := [(2, 0, (w32 (x2 + 1))), (0, 2, q), (1, 0, x1)]) dX7_homeBits_28 rfl (by decide) rfl ?_
      refine z_goto (pc := 31) (tgt := 4) hR dX7_homeBits_31 (by decide) ?_
      refine z_pick (pc := 4) (lv' := [(0, 2, q), (1, 0, x1), (2, 0, (w32 (x2 + 1)))]) hR [1, 2, 0] rfl ?_
      exact hh4 (x1, (w32 (x2 + 1)))
    · refine z_iload_n (pc := 22) hR 1 dX7_homeBits_22 rfl rfl ?_
      refine z_iconst (pc := 23) hR dX7_homeBits_23 rfl ?_
      refine z_iload_n (pc := 24) hR 2 dX7_homeBits_24 rfl rfl ?_
      refine z_ishl (pc := 25) hR dX7_homeBits_25 ?_
      refine z_ior (pc := 26) hR dX7_homeBits_26 ?_
      refine z_let1 (fun v4 => ?_)
      refine z_istore_n (pc := 27) hR (lv' := [(1, 0, v4), (0, 2, q), (2, 0, x2)]) dX7_homeBits_27 rfl (by decide) rfl ?_
      refine z_iinc (pc := 28) hR (j := 2) (lv' := [(2, 0, (w32 (x2 + 1))), (1, 0, v4), (0, 2, q)]) dX7_homeBits_28 rfl (by decide) rfl ?_
      refine z_goto (pc := 31) (tgt := 4) hR dX7_homeBits_31 (by decide) ?_
      refine z_pick (pc := 4) (lv' := [(0, 2, q), (1, 0, v4), (2, 0, (w32 (x2 + 1)))]) hR [2, 1, 0] rfl ?_
      exact hh4 (v4, (w32 (x2 + 1)))
theorem dX7_waterOfAll_0 : decode cX7_waterOfAll 0 = .ok (.iconst 0, 1) := by decide +kernel
theorem dX7_waterOfAll_1 : decode cX7_waterOfAll 1 = .ok (.istore_n 1, 1) := by decide +kernel
theorem dX7_waterOfAll_2 : decode cX7_waterOfAll 2 = .ok (.iconst 0, 1) := by decide +kernel
theorem dX7_waterOfAll_3 : decode cX7_waterOfAll 3 = .ok (.istore_n 2, 1) := by decide +kernel
theorem dX7_waterOfAll_4 : decode cX7_waterOfAll 4 = .ok (.iload_n 2, 1) := by decide +kernel
theorem dX7_waterOfAll_5 : decode cX7_waterOfAll 5 = .ok (.aload_n 0, 1) := by decide +kernel
theorem dX7_waterOfAll_6 : decode cX7_waterOfAll 6 = .ok (.getfield 27, 3) := by decide +kernel
theorem dX7_waterOfAll_9 : decode cX7_waterOfAll 9 = .ok (.if_icmp .ge 18, 3) := by decide +kernel
theorem dX7_waterOfAll_12 : decode cX7_waterOfAll 12 = .ok (.iload_n 1, 1) := by decide +kernel
theorem dX7_waterOfAll_13 : decode cX7_waterOfAll 13 = .ok (.aload_n 0, 1) := by decide +kernel
theorem dX7_waterOfAll_14 : decode cX7_waterOfAll 14 = .ok (.getfield 18, 3) := by decide +kernel
theorem dX7_waterOfAll_17 : decode cX7_waterOfAll 17 = .ok (.iload_n 2, 1) := by decide +kernel
theorem dX7_waterOfAll_18 : decode cX7_waterOfAll 18 = .ok (.iaload, 1) := by decide +kernel
theorem dX7_waterOfAll_19 : decode cX7_waterOfAll 19 = .ok (.iadd, 1) := by decide +kernel
theorem dX7_waterOfAll_20 : decode cX7_waterOfAll 20 = .ok (.istore_n 1, 1) := by decide +kernel
theorem dX7_waterOfAll_21 : decode cX7_waterOfAll 21 = .ok (.iinc 2 1, 3) := by decide +kernel
theorem dX7_waterOfAll_24 : decode cX7_waterOfAll 24 = .ok (.goto (-20), 3) := by decide +kernel
theorem dX7_waterOfAll_27 : decode cX7_waterOfAll 27 = .ok (.iload_n 1, 1) := by decide +kernel
theorem dX7_waterOfAll_28 : decode cX7_waterOfAll 28 = .ok (.ireturn, 1) := by decide +kernel
def St_waterOfAll_L4 (N : Nat) (q : Int) (M : jMem) (h4 : (Int × Int) → Option Int) : Int × Int → Option Int
  | (x1, x2) => (if x2 < (M q 0) then jchk (0 ≤ x2 ∧ x2 < 7) <| jlt ((w32 (x1 + ((M ((q + 3)) x2))))) fun v4 => h4 (v4, (w32 (x2 + 1))) else some x1)
def St_waterOfAll (N : Nat) (q : Int) (M : jMem) : Option Int := jfix N (St_waterOfAll_L4 N q M) (0, 0)
theorem c_St_waterOfAll {l : Launch} {g : jG} (N : Nat) (q : Int) (M : jMem) (hq : jk jTX q 7) : ∀ o, St_waterOfAll N q M = some o → jCt l g jTX yX7_waterOfAll cX7_waterOfAll 3 (some .int) 0 1 [(2, q)] M (o, M) := by
  refine jMet (own := RX7) (em := (fun r => (r, M))) (L := [(0, 2, q)]) (by decide +kernel) rfl (Nat.le_of_ble_eq_true rfl) rfl (fun K hR => ?_)
  unfold St_waterOfAll
  refine z_iconst (pc := 0) hR dX7_waterOfAll_0 rfl ?_
  refine z_istore_n (pc := 1) hR (lv' := [(1, 0, 0), (0, 2, q)]) dX7_waterOfAll_1 rfl (by decide) rfl ?_
  refine z_iconst (pc := 2) hR dX7_waterOfAll_2 rfl ?_
  refine z_istore_n (pc := 3) hR (lv' := [(2, 0, 0), (1, 0, 0), (0, 2, q)]) dX7_waterOfAll_3 rfl (by decide) rfl ?_
  refine z_pick (pc := 4) (lv' := [(0, 2, q), (1, 0, 0), (2, 0, 0)]) hR [2, 1, 0] rfl ?_
  refine z_fix (σ := Int × Int) (lv := fun s => [(0, 2, q), (1, 0, s.1), (2, 0, s.2)]) (st := fun _ => []) (M := fun _ => M) (fun h4 hh4 => ?_) N (0, 0)
  rintro ⟨x1, x2⟩
  show jZ K (fun r => (r, M)) 4 [(0, 2, q), (1, 0, x1), (2, 0, x2)] [] M _
  unfold St_waterOfAll_L4
  refine z_iload_n (pc := 4) hR 2 dX7_waterOfAll_4 rfl rfl ?_
  refine z_aload_n (pc := 5) hR 0 dX7_waterOfAll_5 rfl rfl ?_
  refine z_geti (pc := 6) hR (j := 0) jf_RX7_27 hq (by decide) rfl rfl dX7_waterOfAll_6 ?_
  refine z_icmpge (pc := 9) (tgt := 27) hR dX7_waterOfAll_9 (by decide) ?_ ?_
  · refine z_iload_n (pc := 27) hR 1 dX7_waterOfAll_27 rfl rfl ?_
    exact z_ireturn (pc := 28) hR rfl rfl dX7_waterOfAll_28 rfl
  · refine z_iload_n (pc := 12) hR 1 dX7_waterOfAll_12 rfl rfl ?_
    refine z_aload_n (pc := 13) hR 0 dX7_waterOfAll_13 rfl rfl ?_
    refine z_getr (pc := 14) hR (c0 := 3) (r := (q + 3)) jf_RX7_18 hq (by decide) rfl rfl dX7_waterOfAll_14 ?_
    refine z_iload_n (pc := 17) hR 2 dX7_waterOfAll_17 rfl rfl ?_
    refine z_chk (fun hc3 => ?_)
    refine z_iald (pc := 18) hR (n := 7) (kf_7_water hq) hc3.1 hc3.2 dX7_waterOfAll_18 ?_
    refine z_iadd (pc := 19) hR dX7_waterOfAll_19 ?_
    refine z_let1 (fun v4 => ?_)
    refine z_istore_n (pc := 20) hR (lv' := [(1, 0, v4), (0, 2, q), (2, 0, x2)]) dX7_waterOfAll_20 rfl (by decide) rfl ?_
    refine z_iinc (pc := 21) hR (j := 2) (lv' := [(2, 0, (w32 (x2 + 1))), (1, 0, v4), (0, 2, q)]) dX7_waterOfAll_21 rfl (by decide) rfl ?_
    refine z_goto (pc := 24) (tgt := 4) hR dX7_waterOfAll_24 (by decide) ?_
    refine z_pick (pc := 4) (lv' := [(0, 2, q), (1, 0, v4), (2, 0, (w32 (x2 + 1)))]) hR [2, 1, 0] rfl ?_
    exact hh4 (v4, (w32 (x2 + 1)))
theorem dX7_heirsOfAll_0 : decode cX7_heirsOfAll 0 = .ok (.iconst 0, 1) := by decide +kernel
theorem dX7_heirsOfAll_1 : decode cX7_heirsOfAll 1 = .ok (.istore_n 1, 1) := by decide +kernel
theorem dX7_heirsOfAll_2 : decode cX7_heirsOfAll 2 = .ok (.iconst 0, 1) := by decide +kernel
theorem dX7_heirsOfAll_3 : decode cX7_heirsOfAll 3 = .ok (.istore_n 2, 1) := by decide +kernel
theorem dX7_heirsOfAll_4 : decode cX7_heirsOfAll 4 = .ok (.iload_n 2, 1) := by decide +kernel
theorem dX7_heirsOfAll_5 : decode cX7_heirsOfAll 5 = .ok (.aload_n 0, 1) := by decide +kernel
theorem dX7_heirsOfAll_6 : decode cX7_heirsOfAll 6 = .ok (.getfield 27, 3) := by decide +kernel
theorem dX7_heirsOfAll_9 : decode cX7_heirsOfAll 9 = .ok (.if_icmp .ge 18, 3) := by decide +kernel
theorem dX7_heirsOfAll_12 : decode cX7_heirsOfAll 12 = .ok (.iload_n 1, 1) := by decide +kernel
theorem dX7_heirsOfAll_13 : decode cX7_heirsOfAll 13 = .ok (.aload_n 0, 1) := by decide +kernel
theorem dX7_heirsOfAll_14 : decode cX7_heirsOfAll 14 = .ok (.getfield 24, 3) := by decide +kernel
theorem dX7_heirsOfAll_17 : decode cX7_heirsOfAll 17 = .ok (.iload_n 2, 1) := by decide +kernel
theorem dX7_heirsOfAll_18 : decode cX7_heirsOfAll 18 = .ok (.iaload, 1) := by decide +kernel
theorem dX7_heirsOfAll_19 : decode cX7_heirsOfAll 19 = .ok (.iadd, 1) := by decide +kernel
theorem dX7_heirsOfAll_20 : decode cX7_heirsOfAll 20 = .ok (.istore_n 1, 1) := by decide +kernel
theorem dX7_heirsOfAll_21 : decode cX7_heirsOfAll 21 = .ok (.iinc 2 1, 3) := by decide +kernel
theorem dX7_heirsOfAll_24 : decode cX7_heirsOfAll 24 = .ok (.goto (-20), 3) := by decide +kernel
theorem dX7_heirsOfAll_27 : decode cX7_heirsOfAll 27 = .ok (.iload_n 1, 1) := by decide +kernel
theorem dX7_heirsOfAll_28 : decode cX7_heirsOfAll 28 = .ok (.ireturn, 1) := by decide +kernel
def St_heirsOfAll_L4 (N : Nat) (q : Int) (M : jMem) (h4 : (Int × Int) → Option Int) : Int × Int → Option Int
  | (x1, x2) => (if x2 < (M q 0) then jchk (0 ≤ x2 ∧ x2 < 7) <| jlt ((w32 (x1 + ((M ((q + 5)) x2))))) fun v4 => h4 (v4, (w32 (x2 + 1))) else some x1)
def St_heirsOfAll (N : Nat) (q : Int) (M : jMem) : Option Int := jfix N (St_heirsOfAll_L4 N q M) (0, 0)
theorem c_St_heirsOfAll {l : Launch} {g : jG} (N : Nat) (q : Int) (M : jMem) (hq : jk jTX q 7) : ∀ o, St_heirsOfAll N q M = some o → jCt l g jTX yX7_heirsOfAll cX7_heirsOfAll 3 (some .int) 0 1 [(2, q)] M (o, M) := by
  refine jMet (own := RX7) (em := (fun r => (r, M))) (L := [(0, 2, q)]) (by decide +kernel) rfl (Nat.le_of_ble_eq_true rfl) rfl (fun K hR => ?_)
  unfold St_heirsOfAll
  refine z_iconst (pc := 0) hR dX7_heirsOfAll_0 rfl ?_
  refine z_istore_n (pc := 1) hR (lv' := [(1, 0, 0), (0, 2, q)]) dX7_heirsOfAll_1 rfl (by decide) rfl ?_
  refine z_iconst (pc := 2) hR dX7_heirsOfAll_2 rfl ?_
  refine z_istore_n (pc := 3) hR (lv' := [(2, 0, 0), (1, 0, 0), (0, 2, q)]) dX7_heirsOfAll_3 rfl (by decide) rfl ?_
  refine z_pick (pc := 4) (lv' := [(0, 2, q), (1, 0, 0), (2, 0, 0)]) hR [2, 1, 0] rfl ?_
  refine z_fix (σ := Int × Int) (lv := fun s => [(0, 2, q), (1, 0, s.1), (2, 0, s.2)]) (st := fun _ => []) (M := fun _ => M) (fun h4 hh4 => ?_) N (0, 0)
  rintro ⟨x1, x2⟩
  show jZ K (fun r => (r, M)) 4 [(0, 2, q), (1, 0, x1), (2, 0, x2)] [] M _
  unfold St_heirsOfAll_L4
  refine z_iload_n (pc := 4) hR 2 dX7_heirsOfAll_4 rfl rfl ?_
  refine z_aload_n (pc := 5) hR 0 dX7_heirsOfAll_5 rfl rfl ?_
  refine z_geti (pc := 6) hR (j := 0) jf_RX7_27 hq (by decide) rfl rfl dX7_heirsOfAll_6 ?_
  refine z_icmpge (pc := 9) (tgt := 27) hR dX7_heirsOfAll_9 (by decide) ?_ ?_
  · refine z_iload_n (pc := 27) hR 1 dX7_heirsOfAll_27 rfl rfl ?_
    exact z_ireturn (pc := 28) hR rfl rfl dX7_heirsOfAll_28 rfl
  · refine z_iload_n (pc := 12) hR 1 dX7_heirsOfAll_12 rfl rfl ?_
    refine z_aload_n (pc := 13) hR 0 dX7_heirsOfAll_13 rfl rfl ?_
    refine z_getr (pc := 14) hR (c0 := 5) (r := (q + 5)) jf_RX7_24 hq (by decide) rfl rfl dX7_heirsOfAll_14 ?_
    refine z_iload_n (pc := 17) hR 2 dX7_heirsOfAll_17 rfl rfl ?_
    refine z_chk (fun hc3 => ?_)
    refine z_iald (pc := 18) hR (n := 7) (kf_7_heirs hq) hc3.1 hc3.2 dX7_heirsOfAll_18 ?_
    refine z_iadd (pc := 19) hR dX7_heirsOfAll_19 ?_
    refine z_let1 (fun v4 => ?_)
    refine z_istore_n (pc := 20) hR (lv' := [(1, 0, v4), (0, 2, q), (2, 0, x2)]) dX7_heirsOfAll_20 rfl (by decide) rfl ?_
    refine z_iinc (pc := 21) hR (j := 2) (lv' := [(2, 0, (w32 (x2 + 1))), (1, 0, v4), (0, 2, q)]) dX7_heirsOfAll_21 rfl (by decide) rfl ?_
    refine z_goto (pc := 24) (tgt := 4) hR dX7_heirsOfAll_24 (by decide) ?_
    refine z_pick (pc := 4) (lv' := [(0, 2, q), (1, 0, v4), (2, 0, (w32 (x2 + 1)))]) hR [2, 1, 0] rfl ?_
    exact hh4 (v4, (w32 (x2 + 1)))
theorem dX4_areKin_0 : decode cX4_areKin 0 = .ok (.aload_n 0, 1) := by decide +kernel
theorem dX4_areKin_1 : decode cX4_areKin 1 = .ok (.getfield 24, 3) := by decide +kernel
theorem dX4_areKin_4 : decode cX4_areKin 4 = .ok (.iload_n 1, 1) := by decide +kernel
theorem dX4_areKin_5 : decode cX4_areKin 5 = .ok (.iaload, 1) := by decide +kernel
theorem dX4_areKin_6 : decode cX4_areKin 6 = .ok (.iload_n 2, 1) := by decide +kernel
theorem dX4_areKin_7 : decode cX4_areKin 7 = .ok (.ishr, 1) := by decide +kernel
theorem dX4_areKin_8 : decode cX4_areKin 8 = .ok (.iconst 1, 1) := by decide +kernel
theorem dX4_areKin_9 : decode cX4_areKin 9 = .ok (.iand, 1) := by decide +kernel
theorem dX4_areKin_10 : decode cX4_areKin 10 = .ok (.ifCond .eq 7, 3) := by decide +kernel
theorem dX4_areKin_13 : decode cX4_areKin 13 = .ok (.iconst 1, 1) := by decide +kernel
theorem dX4_areKin_14 : decode cX4_areKin 14 = .ok (.goto 4, 3) := by decide +kernel
theorem dX4_areKin_17 : decode cX4_areKin 17 = .ok (.iconst 0, 1) := by decide +kernel
theorem dX4_areKin_18 : decode cX4_areKin 18 = .ok (.ireturn, 1) := by decide +kernel
def Pa_areKin (N : Nat) (q a1 a2 : Int) (M : jMem) : Option Int := jchk (0 ≤ a1 ∧ a1 < 7) <| (if (jand ((jshr ((M ((q + 5)) a1)) a2)) 1) = 0 then some 0 else some 1)
theorem c_Pa_areKin {l : Launch} {g : jG} (N : Nat) (q a1 a2 : Int) (M : jMem) (hq : jk jTX q 4) : ∀ o, Pa_areKin N q a1 a2 M = some o → jCt l g jTX yX4_areKin cX4_areKin 3 (some .boolean) 0 1 [(2, q), (0, a1), (0, a2)] M (o, M) := by
  refine jMet (own := RX4) (em := (fun r => (r, M))) (L := [(0, 2, q), (1, 0, a1), (2, 0, a2)]) (by decide +kernel) rfl (Nat.le_of_ble_eq_true rfl) rfl (fun K hR => ?_)
  unfold Pa_areKin
  refine z_aload_n (pc := 0) hR 0 dX4_areKin_0 rfl rfl ?_
  refine z_getr (pc := 1) hR (c0 := 5) (r := (q + 5)) jf_RX4_24 hq (by decide) rfl rfl dX4_areKin_1 ?_
  refine z_iload_n (pc := 4) hR 1 dX4_areKin_4 rfl rfl ?_
  refine z_chk (fun hc1 => ?_)
  refine z_iald (pc := 5) hR (n := 7) (kf_4_kin hq) hc1.1 hc1.2 dX4_areKin_5 ?_
  refine z_iload_n (pc := 6) hR 2 dX4_areKin_6 rfl rfl ?_
  refine z_ishr (pc := 7) hR dX4_areKin_7 ?_
  refine z_iconst (pc := 8) hR dX4_areKin_8 rfl ?_
  refine z_iand (pc := 9) hR dX4_areKin_9 ?_
  refine z_ifeq (pc := 10) (tgt := 17) hR dX4_areKin_10 (by decide) ?_ ?_
  · refine z_iconst (pc := 17) hR dX4_areKin_17 rfl ?_
    exact z_zreturn (pc := 18) hR rfl rfl (Or.inl rfl) dX4_areKin_18 rfl
  · refine z_iconst (pc := 13) hR dX4_areKin_13 rfl ?_
    refine z_goto (pc := 14) (tgt := 18) hR dX4_areKin_14 (by decide) ?_
    exact z_zreturn (pc := 18) hR rfl rfl (Or.inr rfl) dX4_areKin_18 rfl
theorem dX7_canWed_0 : decode cX7_canWed 0 = .ok (.aload_n 1, 1) := by decide +kernel
theorem dX7_canWed_1 : decode cX7_canWed 1 = .ok (.iload_n 2, 1) := by decide +kernel
theorem dX7_canWed_2 : decode cX7_canWed 2 = .ok (.iload_n 3, 1) := by decide +kernel
theorem dX7_canWed_3 : decode cX7_canWed 3 = .ok (.invokevirtual 56, 3) := by decide +kernel
theorem dX7_canWed_6 : decode cX7_canWed 6 = .ok (.ifCond .eq 25, 3) := by decide +kernel
theorem dX7_canWed_9 : decode cX7_canWed 9 = .ok (.aload_n 0, 1) := by decide +kernel
theorem dX7_canWed_10 : decode cX7_canWed 10 = .ok (.getfield 24, 3) := by decide +kernel
theorem dX7_canWed_13 : decode cX7_canWed 13 = .ok (.iload_n 2, 1) := by decide +kernel
theorem dX7_canWed_14 : decode cX7_canWed 14 = .ok (.iaload, 1) := by decide +kernel
theorem dX7_canWed_15 : decode cX7_canWed 15 = .ok (.ifCond .le 16, 3) := by decide +kernel
theorem dX7_canWed_18 : decode cX7_canWed 18 = .ok (.aload_n 0, 1) := by decide +kernel
theorem dX7_canWed_19 : decode cX7_canWed 19 = .ok (.getfield 24, 3) := by decide +kernel
theorem dX7_canWed_22 : decode cX7_canWed 22 = .ok (.iload_n 3, 1) := by decide +kernel
theorem dX7_canWed_23 : decode cX7_canWed 23 = .ok (.iaload, 1) := by decide +kernel
theorem dX7_canWed_24 : decode cX7_canWed 24 = .ok (.ifCond .le 7, 3) := by decide +kernel
theorem dX7_canWed_27 : decode cX7_canWed 27 = .ok (.iconst 1, 1) := by decide +kernel
theorem dX7_canWed_28 : decode cX7_canWed 28 = .ok (.goto 4, 3) := by decide +kernel
theorem dX7_canWed_31 : decode cX7_canWed 31 = .ok (.iconst 0, 1) := by decide +kernel
theorem dX7_canWed_32 : decode cX7_canWed 32 = .ok (.ireturn, 1) := by decide +kernel
def St_canWed (N : Nat) (q a2 a3 : Int) (M : jMem) : Option Int := (Pa_areKin N 15 a2 a3 M).bind fun r1 => (if r1 = 0 then some 0 else jchk (0 ≤ a2 ∧ a2 < 7) <| (if 0 < (M ((q + 5)) a2) then jchk (0 ≤ a3 ∧ a3 < 7) <| (if 0 < (M ((q + 5)) a3) then some 1 else some 0) else some 0))
theorem c_St_canWed {l : Launch} {g : jG} (N : Nat) (q a2 a3 : Int) (M : jMem) (hq : jk jTX q 7) : ∀ o, St_canWed N q a2 a3 M = some o → jCt l g jTX yX7_canWed cX7_canWed 4 (some .boolean) 0 3 [(2, q), (2, 15), (0, a2), (0, a3)] M (o, M) := by
  refine jMet (own := RX7) (em := (fun r => (r, M))) (L := [(0, 2, q), (1, 2, 15), (2, 0, a2), (3, 0, a3)]) (by decide +kernel) rfl (Nat.le_of_ble_eq_true rfl) rfl (fun K hR => ?_)
  unfold St_canWed
  refine z_aload_n (pc := 0) hR 1 dX7_canWed_0 rfl rfl ?_
  refine z_iload_n (pc := 1) hR 2 dX7_canWed_1 rfl rfl ?_
  refine z_iload_n (pc := 2) hR 3 dX7_canWed_2 rfl rfl ?_
  refine z_callvp (pc := 3) hR (As := [(0, a2), (0, a3)]) (st := []) jm_X4_areKin jl_RX7_56 kxo_15 (by decide) rfl (by decide) (c_Pa_areKin N 15 a2 a3 M kxo_15) rfl (by decide) (by decide) rfl (Nat.le_of_ble_eq_true rfl) dX7_canWed_3 (fun r1 => ?_)
  refine z_ifeq (pc := 6) (tgt := 31) hR dX7_canWed_6 (by decide) ?_ ?_
  · refine z_iconst (pc := 31) hR dX7_canWed_31 rfl ?_
    exact z_zreturn (pc := 32) hR rfl rfl (Or.inl rfl) dX7_canWed_32 rfl
  · refine z_aload_n (pc := 9) hR 0 dX7_canWed_9 rfl rfl ?_
    refine z_getr (pc := 10) hR (c0 := 5) (r := (q + 5)) jf_RX7_24 hq (by decide) rfl rfl dX7_canWed_10 ?_
    refine z_iload_n (pc := 13) hR 2 dX7_canWed_13 rfl rfl ?_
    refine z_chk (fun hc2 => ?_)
    refine z_iald (pc := 14) hR (n := 7) (kf_7_heirs hq) hc2.1 hc2.2 dX7_canWed_14 ?_
    refine z_ifle (pc := 15) (tgt := 31) hR dX7_canWed_15 (by decide) ?_ ?_
    · refine z_iconst (pc := 31) hR dX7_canWed_31 rfl ?_
      exact z_zreturn (pc := 32) hR rfl rfl (Or.inl rfl) dX7_canWed_32 rfl
    · refine z_aload_n (pc := 18) hR 0 dX7_canWed_18 rfl rfl ?_
      refine z_getr (pc := 19) hR (c0 := 5) (r := (q + 5)) jf_RX7_24 hq (by decide) rfl rfl dX7_canWed_19 ?_
      refine z_iload_n (pc := 22) hR 3 dX7_canWed_22 rfl rfl ?_
      refine z_chk (fun hc3 => ?_)
      refine z_iald (pc := 23) hR (n := 7) (kf_7_heirs hq) hc3.1 hc3.2 dX7_canWed_23 ?_
      refine z_ifle (pc := 24) (tgt := 31) hR dX7_canWed_24 (by decide) ?_ ?_
      · refine z_iconst (pc := 31) hR dX7_canWed_31 rfl ?_
        exact z_zreturn (pc := 32) hR rfl rfl (Or.inl rfl) dX7_canWed_32 rfl
      · refine z_iconst (pc := 27) hR dX7_canWed_27 rfl ?_
        refine z_goto (pc := 28) (tgt := 32) hR dX7_canWed_28 (by decide) ?_
        exact z_zreturn (pc := 32) hR rfl rfl (Or.inr rfl) dX7_canWed_32 rfl
theorem dX7_twosThatCanWed_0 : decode cX7_twosThatCanWed 0 = .ok (.iconst 0, 1) := by decide +kernel
theorem dX7_twosThatCanWed_1 : decode cX7_twosThatCanWed 1 = .ok (.istore_n 2, 1) := by decide +kernel
theorem dX7_twosThatCanWed_2 : decode cX7_twosThatCanWed 2 = .ok (.iconst 0, 1) := by decide +kernel
theorem dX7_twosThatCanWed_3 : decode cX7_twosThatCanWed 3 = .ok (.istore_n 3, 1) := by decide +kernel
theorem dX7_twosThatCanWed_4 : decode cX7_twosThatCanWed 4 = .ok (.iload_n 3, 1) := by decide +kernel
theorem dX7_twosThatCanWed_5 : decode cX7_twosThatCanWed 5 = .ok (.aload_n 0, 1) := by decide +kernel
theorem dX7_twosThatCanWed_6 : decode cX7_twosThatCanWed 6 = .ok (.getfield 27, 3) := by decide +kernel
theorem dX7_twosThatCanWed_9 : decode cX7_twosThatCanWed 9 = .ok (.if_icmp .ge 43, 3) := by decide +kernel
theorem dX7_twosThatCanWed_12 : decode cX7_twosThatCanWed 12 = .ok (.iload_n 3, 1) := by decide +kernel
theorem dX7_twosThatCanWed_13 : decode cX7_twosThatCanWed 13 = .ok (.iconst 1, 1) := by decide +kernel
theorem dX7_twosThatCanWed_14 : decode cX7_twosThatCanWed 14 = .ok (.iadd, 1) := by decide +kernel
theorem dX7_twosThatCanWed_15 : decode cX7_twosThatCanWed 15 = .ok (.istore 4, 2) := by decide +kernel
theorem dX7_twosThatCanWed_17 : decode cX7_twosThatCanWed 17 = .ok (.iload 4, 2) := by decide +kernel
theorem dX7_twosThatCanWed_19 : decode cX7_twosThatCanWed 19 = .ok (.aload_n 0, 1) := by decide +kernel
theorem dX7_twosThatCanWed_20 : decode cX7_twosThatCanWed 20 = .ok (.getfield 27, 3) := by decide +kernel
theorem dX7_twosThatCanWed_23 : decode cX7_twosThatCanWed 23 = .ok (.if_icmp .ge 23, 3) := by decide +kernel
theorem dX7_twosThatCanWed_26 : decode cX7_twosThatCanWed 26 = .ok (.aload_n 0, 1) := by decide +kernel
theorem dX7_twosThatCanWed_27 : decode cX7_twosThatCanWed 27 = .ok (.aload_n 1, 1) := by decide +kernel
theorem dX7_twosThatCanWed_28 : decode cX7_twosThatCanWed 28 = .ok (.iload_n 3, 1) := by decide +kernel
theorem dX7_twosThatCanWed_29 : decode cX7_twosThatCanWed 29 = .ok (.iload 4, 2) := by decide +kernel
theorem dX7_twosThatCanWed_31 : decode cX7_twosThatCanWed 31 = .ok (.invokevirtual 60, 3) := by decide +kernel
theorem dX7_twosThatCanWed_34 : decode cX7_twosThatCanWed 34 = .ok (.ifCond .eq 6, 3) := by decide +kernel
theorem dX7_twosThatCanWed_37 : decode cX7_twosThatCanWed 37 = .ok (.iinc 2 1, 3) := by decide +kernel
theorem dX7_twosThatCanWed_40 : decode cX7_twosThatCanWed 40 = .ok (.iinc 4 1, 3) := by decide +kernel
theorem dX7_twosThatCanWed_43 : decode cX7_twosThatCanWed 43 = .ok (.goto (-26), 3) := by decide +kernel
theorem dX7_twosThatCanWed_46 : decode cX7_twosThatCanWed 46 = .ok (.iinc 3 1, 3) := by decide +kernel
theorem dX7_twosThatCanWed_49 : decode cX7_twosThatCanWed 49 = .ok (.goto (-45), 3) := by decide +kernel
theorem dX7_twosThatCanWed_52 : decode cX7_twosThatCanWed 52 = .ok (.iload_n 2, 1) := by decide +kernel
theorem dX7_twosThatCanWed_53 : decode cX7_twosThatCanWed 53 = .ok (.ireturn, 1) := by decide +kernel
def St_twosThatCanWed_L17 (N : Nat) (q : Int) (M : jMem) (x2 : Int) (h4 : (Int × Int) → Option Int) (h17 : (Int × Int) → Option Int) : Int × Int → Option Int
  | (x4, x5) => (if x5 < (M q 0) then (St_canWed N q x2 x5 M).bind fun r6 => (if r6 = 0 then h17 (x4, (w32 (x5 + 1))) else h17 ((w32 (x4 + 1)), (w32 (x5 + 1)))) else h4 (x4, (w32 (x2 + 1))))
def St_twosThatCanWed_L4 (N : Nat) (q : Int) (M : jMem) (h4 : (Int × Int) → Option Int) : Int × Int → Option Int
  | (x1, x2) => (if x2 < (M q 0) then jlt ((w32 (x2 + 1))) fun v3 => jfix N (St_twosThatCanWed_L17 N q M x2 h4) (x1, v3) else some x1)
def St_twosThatCanWed (N : Nat) (q : Int) (M : jMem) : Option Int := jfix N (St_twosThatCanWed_L4 N q M) (0, 0)
theorem c_St_twosThatCanWed {l : Launch} {g : jG} (N : Nat) (q : Int) (M : jMem) (hq : jk jTX q 7) : ∀ o, St_twosThatCanWed N q M = some o → jCt l g jTX yX7_twosThatCanWed cX7_twosThatCanWed 5 (some .int) 0 5 [(2, q), (2, 15)] M (o, M) := by
  refine jMet (own := RX7) (em := (fun r => (r, M))) (L := [(0, 2, q), (1, 2, 15)]) (by decide +kernel) rfl (Nat.le_of_ble_eq_true rfl) rfl (fun K hR => ?_)
  unfold St_twosThatCanWed
  refine z_iconst (pc := 0) hR dX7_twosThatCanWed_0 rfl ?_
  refine z_istore_n (pc := 1) hR (lv' := [(2, 0, 0), (0, 2, q), (1, 2, 15)]) dX7_twosThatCanWed_1 rfl (by decide) rfl ?_
  refine z_iconst (pc := 2) hR dX7_twosThatCanWed_2 rfl ?_
  refine z_istore_n (pc := 3) hR (lv' := [(3, 0, 0), (2, 0, 0), (0, 2, q), (1, 2, 15)]) dX7_twosThatCanWed_3 rfl (by decide) rfl ?_
  refine z_pick (pc := 4) (lv' := [(0, 2, q), (1, 2, 15), (2, 0, 0), (3, 0, 0)]) hR [2, 3, 1, 0] rfl ?_
  refine z_fix (σ := Int × Int) (lv := fun s => [(0, 2, q), (1, 2, 15), (2, 0, s.1), (3, 0, s.2)]) (st := fun _ => []) (M := fun _ => M) (fun h4 hh4 => ?_) N (0, 0)
  rintro ⟨x1, x2⟩
  show jZ K (fun r => (r, M)) 4 [(0, 2, q), (1, 2, 15), (2, 0, x1), (3, 0, x2)] [] M _
  unfold St_twosThatCanWed_L4
  refine z_iload_n (pc := 4) hR 3 dX7_twosThatCanWed_4 rfl rfl ?_
  refine z_aload_n (pc := 5) hR 0 dX7_twosThatCanWed_5 rfl rfl ?_
  refine z_geti (pc := 6) hR (j := 0) jf_RX7_27 hq (by decide) rfl rfl dX7_twosThatCanWed_6 ?_
  refine z_icmpge (pc := 9) (tgt := 52) hR dX7_twosThatCanWed_9 (by decide) ?_ ?_
  · refine z_iload_n (pc := 52) hR 2 dX7_twosThatCanWed_52 rfl rfl ?_
    exact z_ireturn (pc := 53) hR rfl rfl dX7_twosThatCanWed_53 rfl
  · refine z_iload_n (pc := 12) hR 3 dX7_twosThatCanWed_12 rfl rfl ?_
    refine z_iconst (pc := 13) hR dX7_twosThatCanWed_13 rfl ?_
    refine z_iadd (pc := 14) hR dX7_twosThatCanWed_14 ?_
    refine z_let1 (fun v3 => ?_)
    refine z_istore (pc := 15) hR (lv' := [(4, 0, v3), (0, 2, q), (1, 2, 15), (2, 0, x1), (3, 0, x2)]) dX7_twosThatCanWed_15 (by decide) rfl ?_
    refine z_pick (pc := 17) (lv' := [(0, 2, q), (1, 2, 15), (2, 0, x1), (3, 0, x2), (4, 0, v3)]) hR [1, 2, 3, 4, 0] rfl ?_
    refine z_fix (σ := Int × Int) (lv := fun s => [(0, 2, q), (1, 2, 15), (2, 0, s.1), (3, 0, x2), (4, 0, s.2)]) (st := fun _ => []) (M := fun _ => M) (fun h17 hh17 => ?_) N (x1, v3)
    rintro ⟨x4, x5⟩
    show jZ K (fun r => (r, M)) 17 [(0, 2, q), (1, 2, 15), (2, 0, x4), (3, 0, x2), (4, 0, x5)] [] M _
    unfold St_twosThatCanWed_L17
    refine z_iload (pc := 17) hR 4 dX7_twosThatCanWed_17 rfl ?_
    refine z_aload_n (pc := 19) hR 0 dX7_twosThatCanWed_19 rfl rfl ?_
    refine z_geti (pc := 20) hR (j := 0) jf_RX7_27 hq (by decide) rfl rfl dX7_twosThatCanWed_20 ?_
    refine z_icmpge (pc := 23) (tgt := 46) hR dX7_twosThatCanWed_23 (by decide) ?_ ?_
    · refine z_iinc (pc := 46) hR (j := 3) (lv' := [(3, 0, (w32 (x2 + 1))), (0, 2, q), (1, 2, 15), (2, 0, x4), (4, 0, x5)]) dX7_twosThatCanWed_46 rfl (by decide) rfl ?_
      refine z_goto (pc := 49) (tgt := 4) hR dX7_twosThatCanWed_49 (by decide) ?_
      refine z_pick (pc := 4) (lv' := [(0, 2, q), (1, 2, 15), (2, 0, x4), (3, 0, (w32 (x2 + 1)))]) hR [1, 2, 3, 0] rfl ?_
      exact hh4 (x4, (w32 (x2 + 1)))
    · refine z_aload_n (pc := 26) hR 0 dX7_twosThatCanWed_26 rfl rfl ?_
      refine z_aload_n (pc := 27) hR 1 dX7_twosThatCanWed_27 rfl rfl ?_
      refine z_iload_n (pc := 28) hR 3 dX7_twosThatCanWed_28 rfl rfl ?_
      refine z_iload (pc := 29) hR 4 dX7_twosThatCanWed_29 rfl ?_
      refine z_callvp (pc := 31) hR (As := [(2, 15), (0, x2), (0, x5)]) (st := []) jm_X7_canWed jl_RX7_60 hq (by decide) rfl (by decide) (c_St_canWed N q x2 x5 M hq) rfl (by decide) (by decide) rfl (Nat.le_of_ble_eq_true rfl) dX7_twosThatCanWed_31 (fun r6 => ?_)
      refine z_ifeq (pc := 34) (tgt := 40) hR dX7_twosThatCanWed_34 (by decide) ?_ ?_
      · refine z_iinc (pc := 40) hR (j := 4) (lv' := [(4, 0, (w32 (x5 + 1))), (0, 2, q), (1, 2, 15), (2, 0, x4), (3, 0, x2)]) dX7_twosThatCanWed_40 rfl (by decide) rfl ?_
        refine z_goto (pc := 43) (tgt := 17) hR dX7_twosThatCanWed_43 (by decide) ?_
        refine z_pick (pc := 17) (lv' := [(0, 2, q), (1, 2, 15), (2, 0, x4), (3, 0, x2), (4, 0, (w32 (x5 + 1)))]) hR [1, 2, 3, 4, 0] rfl ?_
        exact hh17 (x4, (w32 (x5 + 1)))
      · refine z_iinc (pc := 37) hR (j := 2) (lv' := [(2, 0, (w32 (x4 + 1))), (0, 2, q), (1, 2, 15), (3, 0, x2), (4, 0, x5)]) dX7_twosThatCanWed_37 rfl (by decide) rfl ?_
        refine z_iinc (pc := 40) hR (j := 4) (lv' := [(4, 0, (w32 (x5 + 1))), (2, 0, (w32 (x4 + 1))), (0, 2, q), (1, 2, 15), (3, 0, x2)]) dX7_twosThatCanWed_40 rfl (by decide) rfl ?_
        refine z_goto (pc := 43) (tgt := 17) hR dX7_twosThatCanWed_43 (by decide) ?_
        refine z_pick (pc := 17) (lv' := [(0, 2, q), (1, 2, 15), (2, 0, (w32 (x4 + 1))), (3, 0, x2), (4, 0, (w32 (x5 + 1)))]) hR [2, 3, 1, 4, 0] rfl ?_
        exact hh17 ((w32 (x4 + 1)), (w32 (x5 + 1)))
theorem dX11_count_0 : decode cX11_count 0 = .ok (.iload_n 1, 1) := by decide +kernel
theorem dX11_count_1 : decode cX11_count 1 = .ok (.tableswitch 196 0 12 #[67, 78, 89, 94, 102, 113, 124, 135, 146, 164, 175, 183, 191], 67) := by decide +kernel
theorem dX11_count_68 : decode cX11_count 68 = .ok (.aload_n 0, 1) := by decide +kernel
theorem dX11_count_69 : decode cX11_count 69 = .ok (.getfield 43, 3) := by decide +kernel
theorem dX11_count_72 : decode cX11_count 72 = .ok (.getfield 95, 3) := by decide +kernel
theorem dX11_count_75 : decode cX11_count 75 = .ok (.getfield 123, 3) := by decide +kernel
theorem dX11_count_78 : decode cX11_count 78 = .ok (.ireturn, 1) := by decide +kernel
theorem dX11_count_79 : decode cX11_count 79 = .ok (.aload_n 0, 1) := by decide +kernel
theorem dX11_count_80 : decode cX11_count 80 = .ok (.getfield 43, 3) := by decide +kernel
theorem dX11_count_83 : decode cX11_count 83 = .ok (.getfield 95, 3) := by decide +kernel
theorem dX11_count_86 : decode cX11_count 86 = .ok (.getfield 185, 3) := by decide +kernel
theorem dX11_count_89 : decode cX11_count 89 = .ok (.ireturn, 1) := by decide +kernel
theorem dX11_count_90 : decode cX11_count 90 = .ok (.aload_n 0, 1) := by decide +kernel
theorem dX11_count_91 : decode cX11_count 91 = .ok (.getfield 126, 3) := by decide +kernel
theorem dX11_count_94 : decode cX11_count 94 = .ok (.ireturn, 1) := by decide +kernel
theorem dX11_count_95 : decode cX11_count 95 = .ok (.aload_n 0, 1) := by decide +kernel
theorem dX11_count_96 : decode cX11_count 96 = .ok (.getfield 43, 3) := by decide +kernel
theorem dX11_count_99 : decode cX11_count 99 = .ok (.getfield 141, 3) := by decide +kernel
theorem dX11_count_102 : decode cX11_count 102 = .ok (.ireturn, 1) := by decide +kernel
theorem dX11_count_103 : decode cX11_count 103 = .ok (.aload_n 0, 1) := by decide +kernel
theorem dX11_count_104 : decode cX11_count 104 = .ok (.getfield 43, 3) := by decide +kernel
theorem dX11_count_107 : decode cX11_count 107 = .ok (.getfield 102, 3) := by decide +kernel
theorem dX11_count_110 : decode cX11_count 110 = .ok (.getfield 188, 3) := by decide +kernel
theorem dX11_count_113 : decode cX11_count 113 = .ok (.ireturn, 1) := by decide +kernel
theorem dX11_count_114 : decode cX11_count 114 = .ok (.aload_n 0, 1) := by decide +kernel
theorem dX11_count_115 : decode cX11_count 115 = .ok (.getfield 43, 3) := by decide +kernel
theorem dX11_count_118 : decode cX11_count 118 = .ok (.getfield 102, 3) := by decide +kernel
theorem dX11_count_121 : decode cX11_count 121 = .ok (.invokevirtual 191, 3) := by decide +kernel
theorem dX11_count_124 : decode cX11_count 124 = .ok (.ireturn, 1) := by decide +kernel
theorem dX11_count_125 : decode cX11_count 125 = .ok (.aload_n 0, 1) := by decide +kernel
theorem dX11_count_126 : decode cX11_count 126 = .ok (.getfield 43, 3) := by decide +kernel
theorem dX11_count_129 : decode cX11_count 129 = .ok (.getfield 102, 3) := by decide +kernel
theorem dX11_count_132 : decode cX11_count 132 = .ok (.invokevirtual 194, 3) := by decide +kernel
theorem dX11_count_135 : decode cX11_count 135 = .ok (.ireturn, 1) := by decide +kernel
theorem dX11_count_136 : decode cX11_count 136 = .ok (.aload_n 0, 1) := by decide +kernel
theorem dX11_count_137 : decode cX11_count 137 = .ok (.getfield 43, 3) := by decide +kernel
theorem dX11_count_140 : decode cX11_count 140 = .ok (.getfield 102, 3) := by decide +kernel
theorem dX11_count_143 : decode cX11_count 143 = .ok (.invokevirtual 197, 3) := by decide +kernel
theorem dX11_count_146 : decode cX11_count 146 = .ok (.ireturn, 1) := by decide +kernel
theorem dX11_count_147 : decode cX11_count 147 = .ok (.aload_n 0, 1) := by decide +kernel
theorem dX11_count_148 : decode cX11_count 148 = .ok (.getfield 43, 3) := by decide +kernel
theorem dX11_count_151 : decode cX11_count 151 = .ok (.getfield 102, 3) := by decide +kernel
theorem dX11_count_154 : decode cX11_count 154 = .ok (.aload_n 0, 1) := by decide +kernel
theorem dX11_count_155 : decode cX11_count 155 = .ok (.getfield 43, 3) := by decide +kernel
theorem dX11_count_158 : decode cX11_count 158 = .ok (.getfield 95, 3) := by decide +kernel
theorem dX11_count_161 : decode cX11_count 161 = .ok (.invokevirtual 200, 3) := by decide +kernel
theorem dX11_count_164 : decode cX11_count 164 = .ok (.ireturn, 1) := by decide +kernel
theorem dX11_count_165 : decode cX11_count 165 = .ok (.aload_n 0, 1) := by decide +kernel
theorem dX11_count_166 : decode cX11_count 166 = .ok (.getfield 43, 3) := by decide +kernel
theorem dX11_count_169 : decode cX11_count 169 = .ok (.getfield 111, 3) := by decide +kernel
theorem dX11_count_172 : decode cX11_count 172 = .ok (.getfield 204, 3) := by decide +kernel
theorem dX11_count_175 : decode cX11_count 175 = .ok (.ireturn, 1) := by decide +kernel
theorem dX11_count_176 : decode cX11_count 176 = .ok (.aload_n 0, 1) := by decide +kernel
theorem dX11_count_177 : decode cX11_count 177 = .ok (.getfield 50, 3) := by decide +kernel
theorem dX11_count_180 : decode cX11_count 180 = .ok (.getfield 207, 3) := by decide +kernel
theorem dX11_count_183 : decode cX11_count 183 = .ok (.ireturn, 1) := by decide +kernel
theorem dX11_count_184 : decode cX11_count 184 = .ok (.aload_n 0, 1) := by decide +kernel
theorem dX11_count_185 : decode cX11_count 185 = .ok (.getfield 43, 3) := by decide +kernel
theorem dX11_count_188 : decode cX11_count 188 = .ok (.getfield 208, 3) := by decide +kernel
theorem dX11_count_191 : decode cX11_count 191 = .ok (.ireturn, 1) := by decide +kernel
theorem dX11_count_192 : decode cX11_count 192 = .ok (.aload_n 0, 1) := by decide +kernel
theorem dX11_count_193 : decode cX11_count 193 = .ok (.getfield 80, 3) := by decide +kernel
theorem dX11_count_196 : decode cX11_count 196 = .ok (.ireturn, 1) := by decide +kernel
theorem dX11_count_197 : decode cX11_count 197 = .ok (.iconst (-1), 1) := by decide +kernel
theorem dX11_count_198 : decode cX11_count 198 = .ok (.ireturn, 1) := by decide +kernel
def x_count (N : Nat) (a1 : Int) (M : jMem) : Option Int := (if a1 = 0 then some ((M 15 0)) else (if a1 = 1 then some ((M 15 1)) else (if a1 = 2 then some ((M 0 6)) else (if a1 = 3 then some ((M 14 3)) else (if a1 = 4 then some ((M 21 1)) else (if a1 = 5 then (St_homeBits N 21 M).bind fun r7 => some r7 else (if a1 = 6 then (St_waterOfAll N 21 M).bind fun r9 => some r9 else (if a1 = 7 then (St_heirsOfAll N 21 M).bind fun r11 => some r11 else (if a1 = 8 then (St_twosThatCanWed N 21 M).bind fun r13 => some r13 else (if a1 = 9 then some ((M 27 0)) else (if a1 = 10 then some ((M 31 2)) else (if a1 = 11 then some ((M 14 4)) else (if a1 = 12 then some ((M 0 1)) else some ((-1)))))))))))))))
theorem c_x_count {l : Launch} {g : jG} (N : Nat) (a1 : Int) (M : jMem)  : ∀ o, x_count N a1 M = some o → jCt l g jTX yX11_count cX11_count 2 (some .int) 0 7 [(2, 0), (0, a1)] M (o, M) := by
  refine jMet (own := RX11) (em := (fun r => (r, M))) (L := [(0, 2, 0), (1, 0, a1)]) (by decide +kernel) rfl (Nat.le_of_ble_eq_true rfl) rfl (fun K hR => ?_)
  unfold x_count
  refine z_iload_n (pc := 0) hR 1 dX11_count_0 rfl rfl ?_
  refine z_tsw (pc := 1) (tgt := 68) (j := 0) (y := 0) hR dX11_count_1 rfl rfl (by decide) (by decide) ?_ (fun hs1 => ?_)
  · refine z_aload_n (pc := 68) hR 0 dX11_count_68 rfl rfl ?_
    refine z_getr (pc := 69) hR (c0 := 14) (r := 14) jf_RX11_43 kxo_0 (by decide) rfl rfl dX11_count_69 ?_
    refine z_getr (pc := 72) hR (c0 := 1) (r := 15) jf_RX11_95 kxo_14 (by decide) rfl rfl dX11_count_72 ?_
    refine z_geti (pc := 75) hR (j := 0) jf_RX11_123 kxo_15 (by decide) rfl rfl dX11_count_75 ?_
    exact z_ireturn (pc := 78) hR rfl rfl dX11_count_78 rfl
  refine z_tsw (pc := 1) (tgt := 79) (j := 1) (y := 1) hR dX11_count_1 rfl rfl (by decide) (by decide) ?_ (fun hs2 => ?_)
  · refine z_aload_n (pc := 79) hR 0 dX11_count_79 rfl rfl ?_
    refine z_getr (pc := 80) hR (c0 := 14) (r := 14) jf_RX11_43 kxo_0 (by decide) rfl rfl dX11_count_80 ?_
    refine z_getr (pc := 83) hR (c0 := 1) (r := 15) jf_RX11_95 kxo_14 (by decide) rfl rfl dX11_count_83 ?_
    refine z_geti (pc := 86) hR (j := 1) jf_RX11_185 kxo_15 (by decide) rfl rfl dX11_count_86 ?_
    exact z_ireturn (pc := 89) hR rfl rfl dX11_count_89 rfl
  refine z_tsw (pc := 1) (tgt := 90) (j := 2) (y := 2) hR dX11_count_1 rfl rfl (by decide) (by decide) ?_ (fun hs3 => ?_)
  · refine z_aload_n (pc := 90) hR 0 dX11_count_90 rfl rfl ?_
    refine z_geti (pc := 91) hR (j := 6) jf_RX11_126 kxo_0 (by decide) rfl rfl dX11_count_91 ?_
    exact z_ireturn (pc := 94) hR rfl rfl dX11_count_94 rfl
  refine z_tsw (pc := 1) (tgt := 95) (j := 3) (y := 3) hR dX11_count_1 rfl rfl (by decide) (by decide) ?_ (fun hs4 => ?_)
  · refine z_aload_n (pc := 95) hR 0 dX11_count_95 rfl rfl ?_
    refine z_getr (pc := 96) hR (c0 := 14) (r := 14) jf_RX11_43 kxo_0 (by decide) rfl rfl dX11_count_96 ?_
    refine z_geti (pc := 99) hR (j := 3) jf_RX11_141 kxo_14 (by decide) rfl rfl dX11_count_99 ?_
    exact z_ireturn (pc := 102) hR rfl rfl dX11_count_102 rfl
  refine z_tsw (pc := 1) (tgt := 103) (j := 4) (y := 4) hR dX11_count_1 rfl rfl (by decide) (by decide) ?_ (fun hs5 => ?_)
  · refine z_aload_n (pc := 103) hR 0 dX11_count_103 rfl rfl ?_
    refine z_getr (pc := 104) hR (c0 := 14) (r := 14) jf_RX11_43 kxo_0 (by decide) rfl rfl dX11_count_104 ?_
    refine z_getr (pc := 107) hR (c0 := 7) (r := 21) jf_RX11_102 kxo_14 (by decide) rfl rfl dX11_count_107 ?_
    refine z_geti (pc := 110) hR (j := 1) jf_RX11_188 kxo_21 (by decide) rfl rfl dX11_count_110 ?_
    exact z_ireturn (pc := 113) hR rfl rfl dX11_count_113 rfl
  refine z_tsw (pc := 1) (tgt := 114) (j := 5) (y := 5) hR dX11_count_1 rfl rfl (by decide) (by decide) ?_ (fun hs6 => ?_)
  · refine z_aload_n (pc := 114) hR 0 dX11_count_114 rfl rfl ?_
    refine z_getr (pc := 115) hR (c0 := 14) (r := 14) jf_RX11_43 kxo_0 (by decide) rfl rfl dX11_count_115 ?_
    refine z_getr (pc := 118) hR (c0 := 7) (r := 21) jf_RX11_102 kxo_14 (by decide) rfl rfl dX11_count_118 ?_
    refine z_callvp (pc := 121) hR (As := []) (st := []) jm_X7_homeBits jl_RX11_191 kxo_21 (by decide) rfl (by decide) (c_St_homeBits N 21 M kxo_21) rfl (by decide) (by decide) rfl (Nat.le_of_ble_eq_true rfl) dX11_count_121 (fun r7 => ?_)
    exact z_ireturn (pc := 124) hR rfl rfl dX11_count_124 rfl
  refine z_tsw (pc := 1) (tgt := 125) (j := 6) (y := 6) hR dX11_count_1 rfl rfl (by decide) (by decide) ?_ (fun hs8 => ?_)
  · refine z_aload_n (pc := 125) hR 0 dX11_count_125 rfl rfl ?_
    refine z_getr (pc := 126) hR (c0 := 14) (r := 14) jf_RX11_43 kxo_0 (by decide) rfl rfl dX11_count_126 ?_
    refine z_getr (pc := 129) hR (c0 := 7) (r := 21) jf_RX11_102 kxo_14 (by decide) rfl rfl dX11_count_129 ?_
    refine z_callvp (pc := 132) hR (As := []) (st := []) jm_X7_waterOfAll jl_RX11_194 kxo_21 (by decide) rfl (by decide) (c_St_waterOfAll N 21 M kxo_21) rfl (by decide) (by decide) rfl (Nat.le_of_ble_eq_true rfl) dX11_count_132 (fun r9 => ?_)
    exact z_ireturn (pc := 135) hR rfl rfl dX11_count_135 rfl
  refine z_tsw (pc := 1) (tgt := 136) (j := 7) (y := 7) hR dX11_count_1 rfl rfl (by decide) (by decide) ?_ (fun hs10 => ?_)
  · refine z_aload_n (pc := 136) hR 0 dX11_count_136 rfl rfl ?_
    refine z_getr (pc := 137) hR (c0 := 14) (r := 14) jf_RX11_43 kxo_0 (by decide) rfl rfl dX11_count_137 ?_
    refine z_getr (pc := 140) hR (c0 := 7) (r := 21) jf_RX11_102 kxo_14 (by decide) rfl rfl dX11_count_140 ?_
    refine z_callvp (pc := 143) hR (As := []) (st := []) jm_X7_heirsOfAll jl_RX11_197 kxo_21 (by decide) rfl (by decide) (c_St_heirsOfAll N 21 M kxo_21) rfl (by decide) (by decide) rfl (Nat.le_of_ble_eq_true rfl) dX11_count_143 (fun r11 => ?_)
    exact z_ireturn (pc := 146) hR rfl rfl dX11_count_146 rfl
  refine z_tsw (pc := 1) (tgt := 147) (j := 8) (y := 8) hR dX11_count_1 rfl rfl (by decide) (by decide) ?_ (fun hs12 => ?_)
  · refine z_aload_n (pc := 147) hR 0 dX11_count_147 rfl rfl ?_
    refine z_getr (pc := 148) hR (c0 := 14) (r := 14) jf_RX11_43 kxo_0 (by decide) rfl rfl dX11_count_148 ?_
    refine z_getr (pc := 151) hR (c0 := 7) (r := 21) jf_RX11_102 kxo_14 (by decide) rfl rfl dX11_count_151 ?_
    refine z_aload_n (pc := 154) hR 0 dX11_count_154 rfl rfl ?_
    refine z_getr (pc := 155) hR (c0 := 14) (r := 14) jf_RX11_43 kxo_0 (by decide) rfl rfl dX11_count_155 ?_
    refine z_getr (pc := 158) hR (c0 := 1) (r := 15) jf_RX11_95 kxo_14 (by decide) rfl rfl dX11_count_158 ?_
    refine z_callvp (pc := 161) hR (As := [(2, 15)]) (st := []) jm_X7_twosThatCanWed jl_RX11_200 kxo_21 (by decide) rfl (by decide) (c_St_twosThatCanWed N 21 M kxo_21) rfl (by decide) (by decide) rfl (Nat.le_of_ble_eq_true rfl) dX11_count_161 (fun r13 => ?_)
    exact z_ireturn (pc := 164) hR rfl rfl dX11_count_164 rfl
  refine z_tsw (pc := 1) (tgt := 165) (j := 9) (y := 9) hR dX11_count_1 rfl rfl (by decide) (by decide) ?_ (fun hs14 => ?_)
  · refine z_aload_n (pc := 165) hR 0 dX11_count_165 rfl rfl ?_
    refine z_getr (pc := 166) hR (c0 := 14) (r := 14) jf_RX11_43 kxo_0 (by decide) rfl rfl dX11_count_166 ?_
    refine z_getr (pc := 169) hR (c0 := 13) (r := 27) jf_RX11_111 kxo_14 (by decide) rfl rfl dX11_count_169 ?_
    refine z_geti (pc := 172) hR (j := 0) jf_RX11_204 kxo_27 (by decide) rfl rfl dX11_count_172 ?_
    exact z_ireturn (pc := 175) hR rfl rfl dX11_count_175 rfl
  refine z_tsw (pc := 1) (tgt := 176) (j := 10) (y := 10) hR dX11_count_1 rfl rfl (by decide) (by decide) ?_ (fun hs15 => ?_)
  · refine z_aload_n (pc := 176) hR 0 dX11_count_176 rfl rfl ?_
    refine z_getr (pc := 177) hR (c0 := 31) (r := 31) jf_RX11_50 kxo_0 (by decide) rfl rfl dX11_count_177 ?_
    refine z_geti (pc := 180) hR (j := 2) jf_RX11_207 kxo_31 (by decide) rfl rfl dX11_count_180 ?_
    exact z_ireturn (pc := 183) hR rfl rfl dX11_count_183 rfl
  refine z_tsw (pc := 1) (tgt := 184) (j := 11) (y := 11) hR dX11_count_1 rfl rfl (by decide) (by decide) ?_ (fun hs16 => ?_)
  · refine z_aload_n (pc := 184) hR 0 dX11_count_184 rfl rfl ?_
    refine z_getr (pc := 185) hR (c0 := 14) (r := 14) jf_RX11_43 kxo_0 (by decide) rfl rfl dX11_count_185 ?_
    refine z_geti (pc := 188) hR (j := 4) jf_RX11_208 kxo_14 (by decide) rfl rfl dX11_count_188 ?_
    exact z_ireturn (pc := 191) hR rfl rfl dX11_count_191 rfl
  refine z_tsw (pc := 1) (tgt := 192) (j := 12) (y := 12) hR dX11_count_1 rfl rfl (by decide) (by decide) ?_ (fun hs17 => ?_)
  · refine z_aload_n (pc := 192) hR 0 dX11_count_192 rfl rfl ?_
    refine z_geti (pc := 193) hR (j := 1) jf_RX11_80 kxo_0 (by decide) rfl rfl dX11_count_193 ?_
    exact z_ireturn (pc := 196) hR rfl rfl dX11_count_196 rfl
  refine z_tswd (pc := 1) (tgt := 197) hR dX11_count_1 (by omega) (by decide) ?_
  refine z_iconst (pc := 197) hR dX11_count_197 rfl ?_
  exact z_ireturn (pc := 198) hR rfl rfl dX11_count_198 rfl
theorem dX7_copyFrom_0 : decode cX7_copyFrom 0 = .ok (.aload_n 0, 1) := by decide +kernel
theorem dX7_copyFrom_1 : decode cX7_copyFrom 1 = .ok (.aload_n 1, 1) := by decide +kernel
theorem dX7_copyFrom_2 : decode cX7_copyFrom 2 = .ok (.getfield 27, 3) := by decide +kernel
theorem dX7_copyFrom_5 : decode cX7_copyFrom 5 = .ok (.putfield 27, 3) := by decide +kernel
theorem dX7_copyFrom_8 : decode cX7_copyFrom 8 = .ok (.aload_n 0, 1) := by decide +kernel
theorem dX7_copyFrom_9 : decode cX7_copyFrom 9 = .ok (.aload_n 1, 1) := by decide +kernel
theorem dX7_copyFrom_10 : decode cX7_copyFrom 10 = .ok (.getfield 31, 3) := by decide +kernel
theorem dX7_copyFrom_13 : decode cX7_copyFrom 13 = .ok (.putfield 31, 3) := by decide +kernel
theorem dX7_copyFrom_16 : decode cX7_copyFrom 16 = .ok (.aload_n 1, 1) := by decide +kernel
theorem dX7_copyFrom_17 : decode cX7_copyFrom 17 = .ok (.getfield 9, 3) := by decide +kernel
theorem dX7_copyFrom_20 : decode cX7_copyFrom 20 = .ok (.iconst 0, 1) := by decide +kernel
theorem dX7_copyFrom_21 : decode cX7_copyFrom 21 = .ok (.aload_n 0, 1) := by decide +kernel
theorem dX7_copyFrom_22 : decode cX7_copyFrom 22 = .ok (.getfield 9, 3) := by decide +kernel
theorem dX7_copyFrom_25 : decode cX7_copyFrom 25 = .ok (.iconst 0, 1) := by decide +kernel
theorem dX7_copyFrom_26 : decode cX7_copyFrom 26 = .ok (.bipush 7, 2) := by decide +kernel
theorem dX7_copyFrom_28 : decode cX7_copyFrom 28 = .ok (.invokestatic 34, 3) := by decide +kernel
theorem dX7_copyFrom_31 : decode cX7_copyFrom 31 = .ok (.aload_n 1, 1) := by decide +kernel
theorem dX7_copyFrom_32 : decode cX7_copyFrom 32 = .ok (.getfield 15, 3) := by decide +kernel
theorem dX7_copyFrom_35 : decode cX7_copyFrom 35 = .ok (.iconst 0, 1) := by decide +kernel
theorem dX7_copyFrom_36 : decode cX7_copyFrom 36 = .ok (.aload_n 0, 1) := by decide +kernel
theorem dX7_copyFrom_37 : decode cX7_copyFrom 37 = .ok (.getfield 15, 3) := by decide +kernel
theorem dX7_copyFrom_40 : decode cX7_copyFrom 40 = .ok (.iconst 0, 1) := by decide +kernel
theorem dX7_copyFrom_41 : decode cX7_copyFrom 41 = .ok (.bipush 7, 2) := by decide +kernel
theorem dX7_copyFrom_43 : decode cX7_copyFrom 43 = .ok (.invokestatic 34, 3) := by decide +kernel
theorem dX7_copyFrom_46 : decode cX7_copyFrom 46 = .ok (.aload_n 1, 1) := by decide +kernel
theorem dX7_copyFrom_47 : decode cX7_copyFrom 47 = .ok (.getfield 18, 3) := by decide +kernel
theorem dX7_copyFrom_50 : decode cX7_copyFrom 50 = .ok (.iconst 0, 1) := by decide +kernel
theorem dX7_copyFrom_51 : decode cX7_copyFrom 51 = .ok (.aload_n 0, 1) := by decide +kernel
theorem dX7_copyFrom_52 : decode cX7_copyFrom 52 = .ok (.getfield 18, 3) := by decide +kernel
theorem dX7_copyFrom_55 : decode cX7_copyFrom 55 = .ok (.iconst 0, 1) := by decide +kernel
theorem dX7_copyFrom_56 : decode cX7_copyFrom 56 = .ok (.bipush 7, 2) := by decide +kernel
theorem dX7_copyFrom_58 : decode cX7_copyFrom 58 = .ok (.invokestatic 34, 3) := by decide +kernel
theorem dX7_copyFrom_61 : decode cX7_copyFrom 61 = .ok (.aload_n 1, 1) := by decide +kernel
theorem dX7_copyFrom_62 : decode cX7_copyFrom 62 = .ok (.getfield 21, 3) := by decide +kernel
theorem dX7_copyFrom_65 : decode cX7_copyFrom 65 = .ok (.iconst 0, 1) := by decide +kernel
theorem dX7_copyFrom_66 : decode cX7_copyFrom 66 = .ok (.aload_n 0, 1) := by decide +kernel
theorem dX7_copyFrom_67 : decode cX7_copyFrom 67 = .ok (.getfield 21, 3) := by decide +kernel
theorem dX7_copyFrom_70 : decode cX7_copyFrom 70 = .ok (.iconst 0, 1) := by decide +kernel
theorem dX7_copyFrom_71 : decode cX7_copyFrom 71 = .ok (.bipush 7, 2) := by decide +kernel
theorem dX7_copyFrom_73 : decode cX7_copyFrom 73 = .ok (.invokestatic 34, 3) := by decide +kernel
theorem dX7_copyFrom_76 : decode cX7_copyFrom 76 = .ok (.aload_n 1, 1) := by decide +kernel
theorem dX7_copyFrom_77 : decode cX7_copyFrom 77 = .ok (.getfield 24, 3) := by decide +kernel
theorem dX7_copyFrom_80 : decode cX7_copyFrom 80 = .ok (.iconst 0, 1) := by decide +kernel
theorem dX7_copyFrom_81 : decode cX7_copyFrom 81 = .ok (.aload_n 0, 1) := by decide +kernel
theorem dX7_copyFrom_82 : decode cX7_copyFrom 82 = .ok (.getfield 24, 3) := by decide +kernel
theorem dX7_copyFrom_85 : decode cX7_copyFrom 85 = .ok (.iconst 0, 1) := by decide +kernel
theorem dX7_copyFrom_86 : decode cX7_copyFrom 86 = .ok (.bipush 7, 2) := by decide +kernel
theorem dX7_copyFrom_88 : decode cX7_copyFrom 88 = .ok (.invokestatic 34, 3) := by decide +kernel
theorem dX7_copyFrom_91 : decode cX7_copyFrom 91 = .ok (.return_, 1) := by decide +kernel
def St_copyFrom (N : Nat) (q a1 : Int) (M : jMem) : Option (Int × jMem) := jlt (up M q 0 ((M a1 0))) fun M1 => jlt (up M1 q 1 ((M1 a1 1))) fun M2 => jlt (jcp M2 ((a1 + 1)) ((q + 1)) 7) fun M3 => jlt (jcp M3 ((a1 + 2)) ((q + 2)) 7) fun M4 => jlt (jcp M4 ((a1 + 3)) ((q + 3)) 7) fun M5 => jlt (jcp M5 ((a1 + 4)) ((q + 4)) 7) fun M6 => jlt (jcp M6 ((a1 + 5)) ((q + 5)) 7) fun M7 => some (0, M7)
theorem c_St_copyFrom {l : Launch} {g : jG} (N : Nat) (q a1 : Int) (M : jMem) (hq : jk jTX q 7) (ha1 : jk jTX a1 7) : ∀ o, St_copyFrom N q a1 M = some o → jCt l g jTX yX7_copyFrom cX7_copyFrom 2 none 3 2 [(2, q), (2, a1)] M o := by
  refine jMet (own := RX7) (em := id) (L := [(0, 2, q), (1, 2, a1)]) (by decide +kernel) rfl (Nat.le_of_ble_eq_true rfl) rfl (fun K hR => ?_)
  unfold St_copyFrom
  refine z_aload_n (pc := 0) hR 0 dX7_copyFrom_0 rfl rfl ?_
  refine z_aload_n (pc := 1) hR 1 dX7_copyFrom_1 rfl rfl ?_
  refine z_geti (pc := 2) hR (j := 0) jf_RX7_27 ha1 (by decide) rfl rfl dX7_copyFrom_2 ?_
  refine z_puti (pc := 5) hR (j := 0) jp_RX7_27 hq (by decide) rfl rfl rfl rfl dX7_copyFrom_5 (fun M1 => ?_)
  refine z_aload_n (pc := 8) hR 0 dX7_copyFrom_8 rfl rfl ?_
  refine z_aload_n (pc := 9) hR 1 dX7_copyFrom_9 rfl rfl ?_
  refine z_geti (pc := 10) hR (j := 1) jf_RX7_31 ha1 (by decide) rfl rfl dX7_copyFrom_10 ?_
  refine z_puti (pc := 13) hR (j := 1) jp_RX7_31 hq (by decide) rfl rfl rfl rfl dX7_copyFrom_13 (fun M2 => ?_)
  refine z_aload_n (pc := 16) hR 1 dX7_copyFrom_16 rfl rfl ?_
  refine z_getr (pc := 17) hR (c0 := 1) (r := (a1 + 1)) jf_RX7_9 ha1 (by decide) rfl rfl dX7_copyFrom_17 ?_
  refine z_iconst (pc := 20) hR dX7_copyFrom_20 rfl ?_
  refine z_aload_n (pc := 21) hR 0 dX7_copyFrom_21 rfl rfl ?_
  refine z_getr (pc := 22) hR (c0 := 1) (r := (q + 1)) jf_RX7_9 hq (by decide) rfl rfl dX7_copyFrom_22 ?_
  refine z_iconst (pc := 25) hR dX7_copyFrom_25 rfl ?_
  refine z_bipush (pc := 26) hR dX7_copyFrom_26 rfl ?_
  refine z_copy (pc := 28) hR (n := 7) jl_RX7_34 jw_cp_n jw_cp_s jw_System (kf_7_depth ha1) (kf_7_depth hq) rfl (by decide) (by decide) (by decide) (by decide) dX7_copyFrom_28 (fun M3 => ?_)
  refine z_aload_n (pc := 31) hR 1 dX7_copyFrom_31 rfl rfl ?_
  refine z_getr (pc := 32) hR (c0 := 2) (r := (a1 + 2)) jf_RX7_15 ha1 (by decide) rfl rfl dX7_copyFrom_32 ?_
  refine z_iconst (pc := 35) hR dX7_copyFrom_35 rfl ?_
  refine z_aload_n (pc := 36) hR 0 dX7_copyFrom_36 rfl rfl ?_
  refine z_getr (pc := 37) hR (c0 := 2) (r := (q + 2)) jf_RX7_15 hq (by decide) rfl rfl dX7_copyFrom_37 ?_
  refine z_iconst (pc := 40) hR dX7_copyFrom_40 rfl ?_
  refine z_bipush (pc := 41) hR dX7_copyFrom_41 rfl ?_
  refine z_copy (pc := 43) hR (n := 7) jl_RX7_34 jw_cp_n jw_cp_s jw_System (kf_7_taste ha1) (kf_7_taste hq) rfl (by decide) (by decide) (by decide) (by decide) dX7_copyFrom_43 (fun M4 => ?_)
  refine z_aload_n (pc := 46) hR 1 dX7_copyFrom_46 rfl rfl ?_
  refine z_getr (pc := 47) hR (c0 := 3) (r := (a1 + 3)) jf_RX7_18 ha1 (by decide) rfl rfl dX7_copyFrom_47 ?_
  refine z_iconst (pc := 50) hR dX7_copyFrom_50 rfl ?_
  refine z_aload_n (pc := 51) hR 0 dX7_copyFrom_51 rfl rfl ?_
  refine z_getr (pc := 52) hR (c0 := 3) (r := (q + 3)) jf_RX7_18 hq (by decide) rfl rfl dX7_copyFrom_52 ?_
  refine z_iconst (pc := 55) hR dX7_copyFrom_55 rfl ?_
  refine z_bipush (pc := 56) hR dX7_copyFrom_56 rfl ?_
  refine z_copy (pc := 58) hR (n := 7) jl_RX7_34 jw_cp_n jw_cp_s jw_System (kf_7_water ha1) (kf_7_water hq) rfl (by decide) (by decide) (by decide) (by decide) dX7_copyFrom_58 (fun M5 => ?_)
  refine z_aload_n (pc := 61) hR 1 dX7_copyFrom_61 rfl rfl ?_
  refine z_getr (pc := 62) hR (c0 := 4) (r := (a1 + 4)) jf_RX7_21 ha1 (by decide) rfl rfl dX7_copyFrom_62 ?_
  refine z_iconst (pc := 65) hR dX7_copyFrom_65 rfl ?_
  refine z_aload_n (pc := 66) hR 0 dX7_copyFrom_66 rfl rfl ?_
  refine z_getr (pc := 67) hR (c0 := 4) (r := (q + 4)) jf_RX7_21 hq (by decide) rfl rfl dX7_copyFrom_67 ?_
  refine z_iconst (pc := 70) hR dX7_copyFrom_70 rfl ?_
  refine z_bipush (pc := 71) hR dX7_copyFrom_71 rfl ?_
  refine z_copy (pc := 73) hR (n := 7) jl_RX7_34 jw_cp_n jw_cp_s jw_System (kf_7_has ha1) (kf_7_has hq) rfl (by decide) (by decide) (by decide) (by decide) dX7_copyFrom_73 (fun M6 => ?_)
  refine z_aload_n (pc := 76) hR 1 dX7_copyFrom_76 rfl rfl ?_
  refine z_getr (pc := 77) hR (c0 := 5) (r := (a1 + 5)) jf_RX7_24 ha1 (by decide) rfl rfl dX7_copyFrom_77 ?_
  refine z_iconst (pc := 80) hR dX7_copyFrom_80 rfl ?_
  refine z_aload_n (pc := 81) hR 0 dX7_copyFrom_81 rfl rfl ?_
  refine z_getr (pc := 82) hR (c0 := 5) (r := (q + 5)) jf_RX7_24 hq (by decide) rfl rfl dX7_copyFrom_82 ?_
  refine z_iconst (pc := 85) hR dX7_copyFrom_85 rfl ?_
  refine z_bipush (pc := 86) hR dX7_copyFrom_86 rfl ?_
  refine z_copy (pc := 88) hR (n := 7) jl_RX7_34 jw_cp_n jw_cp_s jw_System (kf_7_heirs ha1) (kf_7_heirs hq) rfl (by decide) (by decide) (by decide) (by decide) dX7_copyFrom_88 (fun M7 => ?_)
  exact z_return (x := 0) (pc := 91) hR rfl rfl dX7_copyFrom_91 rfl
theorem dX0_keep_0 : decode cX0_keep 0 = .ok (.aload_n 0, 1) := by decide +kernel
theorem dX0_keep_1 : decode cX0_keep 1 = .ok (.getfield 11, 3) := by decide +kernel
theorem dX0_keep_4 : decode cX0_keep 4 = .ok (.aload_n 0, 1) := by decide +kernel
theorem dX0_keep_5 : decode cX0_keep 5 = .ok (.getfield 22, 3) := by decide +kernel
theorem dX0_keep_8 : decode cX0_keep 8 = .ok (.aaload, 1) := by decide +kernel
theorem dX0_keep_9 : decode cX0_keep 9 = .ok (.aload_n 1, 1) := by decide +kernel
theorem dX0_keep_10 : decode cX0_keep 10 = .ok (.invokevirtual 25, 3) := by decide +kernel
theorem dX0_keep_13 : decode cX0_keep 13 = .ok (.aload_n 0, 1) := by decide +kernel
theorem dX0_keep_14 : decode cX0_keep 14 = .ok (.aload_n 0, 1) := by decide +kernel
theorem dX0_keep_15 : decode cX0_keep 15 = .ok (.getfield 22, 3) := by decide +kernel
theorem dX0_keep_18 : decode cX0_keep 18 = .ok (.iconst 1, 1) := by decide +kernel
theorem dX0_keep_19 : decode cX0_keep 19 = .ok (.iadd, 1) := by decide +kernel
theorem dX0_keep_20 : decode cX0_keep 20 = .ok (.bipush 20, 2) := by decide +kernel
theorem dX0_keep_22 : decode cX0_keep 22 = .ok (.irem, 1) := by decide +kernel
theorem dX0_keep_23 : decode cX0_keep 23 = .ok (.putfield 22, 3) := by decide +kernel
theorem dX0_keep_26 : decode cX0_keep 26 = .ok (.aload_n 0, 1) := by decide +kernel
theorem dX0_keep_27 : decode cX0_keep 27 = .ok (.aload_n 0, 1) := by decide +kernel
theorem dX0_keep_28 : decode cX0_keep 28 = .ok (.getfield 18, 3) := by decide +kernel
theorem dX0_keep_31 : decode cX0_keep 31 = .ok (.iconst 1, 1) := by decide +kernel
theorem dX0_keep_32 : decode cX0_keep 32 = .ok (.iadd, 1) := by decide +kernel
theorem dX0_keep_33 : decode cX0_keep 33 = .ok (.bipush 20, 2) := by decide +kernel
theorem dX0_keep_35 : decode cX0_keep 35 = .ok (.invokestatic 29, 3) := by decide +kernel
theorem dX0_keep_38 : decode cX0_keep 38 = .ok (.putfield 18, 3) := by decide +kernel
theorem dX0_keep_41 : decode cX0_keep 41 = .ok (.return_, 1) := by decide +kernel
def Ac_keep (N : Nat) (a1 : Int) (M : jMem) : Option (Int × jMem) := jchk (0 ≤ (M 31 1) ∧ (M 31 1) < 20) <| jbv (St_copyFrom N ((32 + 1 + 6 * ((M 31 1)))) a1 M) fun M2 => jlt (up M2 31 1 ((((w32 (((M2 31 1)) + 1))).tmod 20))) fun M3 => jlt (up M3 31 2 ((jmin ((w32 (((M3 31 2)) + 1))) 20))) fun M4 => some (0, M4)
theorem c_Ac_keep {l : Launch} {g : jG} (N : Nat) (a1 : Int) (M : jMem) (ha1 : jk jTX a1 7) : ∀ o, Ac_keep N a1 M = some o → jCt l g jTX yX0_keep cX0_keep 2 none 3 4 [(2, 31), (2, a1)] M o := by
  refine jMet (own := RX0) (em := id) (L := [(0, 2, 31), (1, 2, a1)]) (by decide +kernel) rfl (Nat.le_of_ble_eq_true rfl) rfl (fun K hR => ?_)
  unfold Ac_keep
  refine z_aload_n (pc := 0) hR 0 dX0_keep_0 rfl rfl ?_
  refine z_getr (pc := 1) hR (c0 := 1) (r := 32) jf_RX0_11 kxo_31 (by decide) rfl rfl dX0_keep_1 ?_
  refine z_aload_n (pc := 4) hR 0 dX0_keep_4 rfl rfl ?_
  refine z_geti (pc := 5) hR (j := 1) jf_RX0_22 kxo_31 (by decide) rfl rfl dX0_keep_5 ?_
  refine z_chk (fun hc1 => ?_)
  refine z_aald7 (pc := 8) hR (n := 20) kxa_32 hc1.1 hc1.2 dX0_keep_8 ?_
  refine z_aload_n (pc := 9) hR 1 dX0_keep_9 rfl rfl ?_
  refine z_callv0 (pc := 10) (rk' := 3) hR (As := [(2, a1)]) (st := []) jm_X7_copyFrom jl_RX0_25 (ke_7 kxa_32 hc1.1 hc1.2) (by decide) rfl (c_St_copyFrom N ((32 + 1 + 6 * ((M 31 1)))) a1 M (ke_7 kxa_32 hc1.1 hc1.2) ha1) rfl (by decide) (by decide) rfl (Nat.le_of_ble_eq_true rfl) dX0_keep_10 (fun M2 => ?_)
  refine z_aload_n (pc := 13) hR 0 dX0_keep_13 rfl rfl ?_
  refine z_aload_n (pc := 14) hR 0 dX0_keep_14 rfl rfl ?_
  refine z_geti (pc := 15) hR (j := 1) jf_RX0_22 kxo_31 (by decide) rfl rfl dX0_keep_15 ?_
  refine z_iconst (pc := 18) hR dX0_keep_18 rfl ?_
  refine z_iadd (pc := 19) hR dX0_keep_19 ?_
  refine z_bipush (pc := 20) hR dX0_keep_20 rfl ?_
  refine z_irem (pc := 22) hR dX0_keep_22 (by decide) ?_
  refine z_puti (pc := 23) hR (j := 1) jp_RX0_22 kxo_31 (by decide) rfl rfl rfl rfl dX0_keep_23 (fun M3 => ?_)
  refine z_aload_n (pc := 26) hR 0 dX0_keep_26 rfl rfl ?_
  refine z_aload_n (pc := 27) hR 0 dX0_keep_27 rfl rfl ?_
  refine z_geti (pc := 28) hR (j := 2) jf_RX0_18 kxo_31 (by decide) rfl rfl dX0_keep_28 ?_
  refine z_iconst (pc := 31) hR dX0_keep_31 rfl ?_
  refine z_iadd (pc := 32) hR dX0_keep_32 ?_
  refine z_bipush (pc := 33) hR dX0_keep_33 rfl ?_
  refine z_mmin (pc := 35) hR jl_RX0_29 jw_min_s jw_Math jw_min_c (by decide) (Nat.le_of_ble_eq_true rfl) dX0_keep_35 ?_
  refine z_puti (pc := 38) hR (j := 2) jp_RX0_18 kxo_31 (by decide) rfl rfl rfl rfl dX0_keep_38 (fun M4 => ?_)
  exact z_return (x := 0) (pc := 41) hR rfl rfl dX0_keep_41 rfl
theorem dX11_ruleInForce_0 : decode cX11_ruleInForce 0 = .ok (.aload_n 0, 1) := by decide +kernel
theorem dX11_ruleInForce_1 : decode cX11_ruleInForce 1 = .ok (.getfield 43, 3) := by decide +kernel
theorem dX11_ruleInForce_4 : decode cX11_ruleInForce 4 = .ok (.getfield 141, 3) := by decide +kernel
theorem dX11_ruleInForce_7 : decode cX11_ruleInForce 7 = .ok (.iconst 0, 1) := by decide +kernel
theorem dX11_ruleInForce_8 : decode cX11_ruleInForce 8 = .ok (.aload_n 0, 1) := by decide +kernel
theorem dX11_ruleInForce_9 : decode cX11_ruleInForce 9 = .ok (.getfield 126, 3) := by decide +kernel
theorem dX11_ruleInForce_12 : decode cX11_ruleInForce 12 = .ok (.iconst 1, 1) := by decide +kernel
theorem dX11_ruleInForce_13 : decode cX11_ruleInForce 13 = .ok (.isub, 1) := by decide +kernel
theorem dX11_ruleInForce_14 : decode cX11_ruleInForce 14 = .ok (.invokestatic 137, 3) := by decide +kernel
theorem dX11_ruleInForce_17 : decode cX11_ruleInForce 17 = .ok (.ifCond .eq 18, 3) := by decide +kernel
theorem dX11_ruleInForce_20 : decode cX11_ruleInForce 20 = .ok (.aload_n 0, 1) := by decide +kernel
theorem dX11_ruleInForce_21 : decode cX11_ruleInForce 21 = .ok (.getfield 36, 3) := by decide +kernel
theorem dX11_ruleInForce_24 : decode cX11_ruleInForce 24 = .ok (.aload_n 0, 1) := by decide +kernel
theorem dX11_ruleInForce_25 : decode cX11_ruleInForce 25 = .ok (.getfield 43, 3) := by decide +kernel
theorem dX11_ruleInForce_28 : decode cX11_ruleInForce 28 = .ok (.getfield 141, 3) := by decide +kernel
theorem dX11_ruleInForce_31 : decode cX11_ruleInForce 31 = .ok (.aaload, 1) := by decide +kernel
theorem dX11_ruleInForce_32 : decode cX11_ruleInForce 32 = .ok (.goto 4, 3) := by decide +kernel
theorem dX11_ruleInForce_35 : decode cX11_ruleInForce 35 = .ok (.aconst_null, 1) := by decide +kernel
theorem dX11_ruleInForce_36 : decode cX11_ruleInForce 36 = .ok (.areturn, 1) := by decide +kernel
def x_ruleInForce (N : Nat) (M : jMem) : Option Int := (x_isWithin N ((M 14 3)) 0 ((w32 (((M 0 6)) - 1))) M).bind fun r1 => (if r1 = 0 then some ((-1)) else jchk (0 ≤ (M 14 3) ∧ (M 14 3) < 6) <| some ((13 + 164 + 6 * ((M 14 3)))))
theorem c_x_ruleInForce {l : Launch} {g : jG} (N : Nat) (M : jMem)  : ∀ o, x_ruleInForce N  M = some o → jCt l g jTX yX11_ruleInForce cX11_ruleInForce 1 (some (.object "WellSwap$Rule")) 2 3 [(2, 0)] M (o, M) := by
  refine jMet (own := RX11) (em := (fun r => (r, M))) (L := [(0, 2, 0)]) (by decide +kernel) rfl (Nat.le_of_ble_eq_true rfl) rfl (fun K hR => ?_)
  unfold x_ruleInForce
  refine z_aload_n (pc := 0) hR 0 dX11_ruleInForce_0 rfl rfl ?_
  refine z_getr (pc := 1) hR (c0 := 14) (r := 14) jf_RX11_43 kxo_0 (by decide) rfl rfl dX11_ruleInForce_1 ?_
  refine z_geti (pc := 4) hR (j := 3) jf_RX11_141 kxo_14 (by decide) rfl rfl dX11_ruleInForce_4 ?_
  refine z_iconst (pc := 7) hR dX11_ruleInForce_7 rfl ?_
  refine z_aload_n (pc := 8) hR 0 dX11_ruleInForce_8 rfl rfl ?_
  refine z_geti (pc := 9) hR (j := 6) jf_RX11_126 kxo_0 (by decide) rfl rfl dX11_ruleInForce_9 ?_
  refine z_iconst (pc := 12) hR dX11_ruleInForce_12 rfl ?_
  refine z_isub (pc := 13) hR dX11_ruleInForce_13 ?_
  refine z_callsp (pc := 14) hR (As := [(0, (M 14 3)), (0, 0), (0, (w32 (((M 0 6)) - 1)))]) (st := []) jm_X11_isWithin jl_RX11_137 (by decide) (c_x_isWithin N ((M 14 3)) 0 ((w32 (((M 0 6)) - 1))) M) rfl (by decide) (by decide) rfl (Nat.le_of_ble_eq_true rfl) dX11_ruleInForce_14 (fun r1 => ?_)
  refine z_ifeq (pc := 17) (tgt := 35) hR dX11_ruleInForce_17 (by decide) ?_ ?_
  · refine z_null (pc := 35) hR dX11_ruleInForce_35 ?_
    exact z_areturn (pc := 36) hR rfl rfl dX11_ruleInForce_36 rfl
  · refine z_aload_n (pc := 20) hR 0 dX11_ruleInForce_20 rfl rfl ?_
    refine z_getr (pc := 21) hR (c0 := 13) (r := 13) jf_RX11_36 kxo_0 (by decide) rfl rfl dX11_ruleInForce_21 ?_
    refine z_aload_n (pc := 24) hR 0 dX11_ruleInForce_24 rfl rfl ?_
    refine z_getr (pc := 25) hR (c0 := 14) (r := 14) jf_RX11_43 kxo_0 (by decide) rfl rfl dX11_ruleInForce_25 ?_
    refine z_geti (pc := 28) hR (j := 3) jf_RX11_141 kxo_14 (by decide) rfl rfl dX11_ruleInForce_28 ?_
    refine z_chk (fun hc2 => ?_)
    refine z_aald5 (pc := 31) hR (n := 6) kxa_13 hc2.1 hc2.2 dX11_ruleInForce_31 ?_
    refine z_goto (pc := 32) (tgt := 36) hR dX11_ruleInForce_32 (by decide) ?_
    exact z_areturn (pc := 36) hR rfl rfl dX11_ruleInForce_36 rfl
theorem dX10_firstTwo_0 : decode cX10_firstTwo 0 = .ok (.iconst 0, 1) := by decide +kernel
theorem dX10_firstTwo_1 : decode cX10_firstTwo 1 = .ok (.istore_n 2, 1) := by decide +kernel
theorem dX10_firstTwo_2 : decode cX10_firstTwo 2 = .ok (.iload_n 2, 1) := by decide +kernel
theorem dX10_firstTwo_3 : decode cX10_firstTwo 3 = .ok (.aload_n 1, 1) := by decide +kernel
theorem dX10_firstTwo_4 : decode cX10_firstTwo 4 = .ok (.getfield 50, 3) := by decide +kernel
theorem dX10_firstTwo_7 : decode cX10_firstTwo 7 = .ok (.if_icmp .ge 44, 3) := by decide +kernel
theorem dX10_firstTwo_10 : decode cX10_firstTwo 10 = .ok (.iload_n 2, 1) := by decide +kernel
theorem dX10_firstTwo_11 : decode cX10_firstTwo 11 = .ok (.iconst 1, 1) := by decide +kernel
theorem dX10_firstTwo_12 : decode cX10_firstTwo 12 = .ok (.iadd, 1) := by decide +kernel
theorem dX10_firstTwo_13 : decode cX10_firstTwo 13 = .ok (.istore_n 3, 1) := by decide +kernel
theorem dX10_firstTwo_14 : decode cX10_firstTwo 14 = .ok (.iload_n 3, 1) := by decide +kernel
theorem dX10_firstTwo_15 : decode cX10_firstTwo 15 = .ok (.aload_n 1, 1) := by decide +kernel
theorem dX10_firstTwo_16 : decode cX10_firstTwo 16 = .ok (.getfield 50, 3) := by decide +kernel
theorem dX10_firstTwo_19 : decode cX10_firstTwo 19 = .ok (.if_icmp .ge 26, 3) := by decide +kernel
theorem dX10_firstTwo_22 : decode cX10_firstTwo 22 = .ok (.aload_n 1, 1) := by decide +kernel
theorem dX10_firstTwo_23 : decode cX10_firstTwo 23 = .ok (.aload_n 0, 1) := by decide +kernel
theorem dX10_firstTwo_24 : decode cX10_firstTwo 24 = .ok (.iload_n 2, 1) := by decide +kernel
theorem dX10_firstTwo_25 : decode cX10_firstTwo 25 = .ok (.iload_n 3, 1) := by decide +kernel
theorem dX10_firstTwo_26 : decode cX10_firstTwo 26 = .ok (.invokevirtual 57, 3) := by decide +kernel
theorem dX10_firstTwo_29 : decode cX10_firstTwo 29 = .ok (.ifCond .eq 10, 3) := by decide +kernel
theorem dX10_firstTwo_32 : decode cX10_firstTwo 32 = .ok (.bipush 8, 2) := by decide +kernel
theorem dX10_firstTwo_34 : decode cX10_firstTwo 34 = .ok (.iload_n 2, 1) := by decide +kernel
theorem dX10_firstTwo_35 : decode cX10_firstTwo 35 = .ok (.imul, 1) := by decide +kernel
theorem dX10_firstTwo_36 : decode cX10_firstTwo 36 = .ok (.iload_n 3, 1) := by decide +kernel
theorem dX10_firstTwo_37 : decode cX10_firstTwo 37 = .ok (.iadd, 1) := by decide +kernel
theorem dX10_firstTwo_38 : decode cX10_firstTwo 38 = .ok (.ireturn, 1) := by decide +kernel
theorem dX10_firstTwo_39 : decode cX10_firstTwo 39 = .ok (.iinc 3 1, 3) := by decide +kernel
theorem dX10_firstTwo_42 : decode cX10_firstTwo 42 = .ok (.goto (-28), 3) := by decide +kernel
theorem dX10_firstTwo_45 : decode cX10_firstTwo 45 = .ok (.iinc 2 1, 3) := by decide +kernel
theorem dX10_firstTwo_48 : decode cX10_firstTwo 48 = .ok (.goto (-46), 3) := by decide +kernel
theorem dX10_firstTwo_51 : decode cX10_firstTwo 51 = .ok (.bipush (-2), 2) := by decide +kernel
theorem dX10_firstTwo_53 : decode cX10_firstTwo 53 = .ok (.ireturn, 1) := by decide +kernel
def Ye_firstTwo_L14 (N : Nat) (a1 : Int) (M : jMem) (x1 : Int) (h2 : Int → Option Int) (h14 : Int → Option Int) : Int → Option Int
  | x3 => (if x3 < (M a1 0) then (St_canWed N a1 x1 x3 M).bind fun r4 => (if r4 = 0 then h14 ((w32 (x3 + 1))) else some ((w32 (((w32 (8 * x1))) + x3)))) else h2 ((w32 (x1 + 1))))
def Ye_firstTwo_L2 (N : Nat) (a1 : Int) (M : jMem) (h2 : Int → Option Int) : Int → Option Int
  | x1 => (if x1 < (M a1 0) then jlt ((w32 (x1 + 1))) fun v2 => jfix N (Ye_firstTwo_L14 N a1 M x1 h2) v2 else some ((-2)))
def Ye_firstTwo (N : Nat) (a1 : Int) (M : jMem) : Option Int := jfix N (Ye_firstTwo_L2 N a1 M) 0
theorem c_Ye_firstTwo {l : Launch} {g : jG} (N : Nat) (a1 : Int) (M : jMem) (ha1 : jk jTX a1 7) : ∀ o, Ye_firstTwo N a1 M = some o → jCt l g jTX yX10_firstTwo cX10_firstTwo 4 (some .int) 0 5 [(2, 15), (2, a1)] M (o, M) := by
  refine jMet (own := RX10) (em := (fun r => (r, M))) (L := [(0, 2, 15), (1, 2, a1)]) (by decide +kernel) rfl (Nat.le_of_ble_eq_true rfl) rfl (fun K hR => ?_)
  unfold Ye_firstTwo
  refine z_iconst (pc := 0) hR dX10_firstTwo_0 rfl ?_
  refine z_istore_n (pc := 1) hR (lv' := [(2, 0, 0), (0, 2, 15), (1, 2, a1)]) dX10_firstTwo_1 rfl (by decide) rfl ?_
  refine z_pick (pc := 2) (lv' := [(0, 2, 15), (1, 2, a1), (2, 0, 0)]) hR [1, 2, 0] rfl ?_
  refine z_fix (σ := Int) (lv := fun s => [(0, 2, 15), (1, 2, a1), (2, 0, s)]) (st := fun _ => []) (M := fun _ => M) (fun h2 hh2 => ?_) N 0
  intro x1
  show jZ K (fun r => (r, M)) 2 [(0, 2, 15), (1, 2, a1), (2, 0, x1)] [] M _
  unfold Ye_firstTwo_L2
  refine z_iload_n (pc := 2) hR 2 dX10_firstTwo_2 rfl rfl ?_
  refine z_aload_n (pc := 3) hR 1 dX10_firstTwo_3 rfl rfl ?_
  refine z_geti (pc := 4) hR (j := 0) jf_RX10_50 ha1 (by decide) rfl rfl dX10_firstTwo_4 ?_
  refine z_icmpge (pc := 7) (tgt := 51) hR dX10_firstTwo_7 (by decide) ?_ ?_
  · refine z_bipush (pc := 51) hR dX10_firstTwo_51 rfl ?_
    exact z_ireturn (pc := 53) hR rfl rfl dX10_firstTwo_53 rfl
  · refine z_iload_n (pc := 10) hR 2 dX10_firstTwo_10 rfl rfl ?_
    refine z_iconst (pc := 11) hR dX10_firstTwo_11 rfl ?_
    refine z_iadd (pc := 12) hR dX10_firstTwo_12 ?_
    refine z_let1 (fun v2 => ?_)
    refine z_istore_n (pc := 13) hR (lv' := [(3, 0, v2), (0, 2, 15), (1, 2, a1), (2, 0, x1)]) dX10_firstTwo_13 rfl (by decide) rfl ?_
    refine z_pick (pc := 14) (lv' := [(0, 2, 15), (1, 2, a1), (2, 0, x1), (3, 0, v2)]) hR [1, 2, 3, 0] rfl ?_
    refine z_fix (σ := Int) (lv := fun s => [(0, 2, 15), (1, 2, a1), (2, 0, x1), (3, 0, s)]) (st := fun _ => []) (M := fun _ => M) (fun h14 hh14 => ?_) N v2
    intro x3
    show jZ K (fun r => (r, M)) 14 [(0, 2, 15), (1, 2, a1), (2, 0, x1), (3, 0, x3)] [] M _
    unfold Ye_firstTwo_L14
    refine z_iload_n (pc := 14) hR 3 dX10_firstTwo_14 rfl rfl ?_
    refine z_aload_n (pc := 15) hR 1 dX10_firstTwo_15 rfl rfl ?_
    refine z_geti (pc := 16) hR (j := 0) jf_RX10_50 ha1 (by decide) rfl rfl dX10_firstTwo_16 ?_
    refine z_icmpge (pc := 19) (tgt := 45) hR dX10_firstTwo_19 (by decide) ?_ ?_
    · refine z_iinc (pc := 45) hR (j := 2) (lv' := [(2, 0, (w32 (x1 + 1))), (0, 2, 15), (1, 2, a1), (3, 0, x3)]) dX10_firstTwo_45 rfl (by decide) rfl ?_
      refine z_goto (pc := 48) (tgt := 2) hR dX10_firstTwo_48 (by decide) ?_
      refine z_pick (pc := 2) (lv' := [(0, 2, 15), (1, 2, a1), (2, 0, (w32 (x1 + 1)))]) hR [1, 2, 0] rfl ?_
      exact hh2 ((w32 (x1 + 1)))
    · refine z_aload_n (pc := 22) hR 1 dX10_firstTwo_22 rfl rfl ?_
      refine z_aload_n (pc := 23) hR 0 dX10_firstTwo_23 rfl rfl ?_
      refine z_iload_n (pc := 24) hR 2 dX10_firstTwo_24 rfl rfl ?_
      refine z_iload_n (pc := 25) hR 3 dX10_firstTwo_25 rfl rfl ?_
      refine z_callvp (pc := 26) hR (As := [(2, 15), (0, x1), (0, x3)]) (st := []) jm_X7_canWed jl_RX10_57 ha1 (by decide) rfl (by decide) (c_St_canWed N a1 x1 x3 M ha1) rfl (by decide) (by decide) rfl (Nat.le_of_ble_eq_true rfl) dX10_firstTwo_26 (fun r4 => ?_)
      refine z_ifeq (pc := 29) (tgt := 39) hR dX10_firstTwo_29 (by decide) ?_ ?_
      · refine z_iinc (pc := 39) hR (j := 3) (lv' := [(3, 0, (w32 (x3 + 1))), (0, 2, 15), (1, 2, a1), (2, 0, x1)]) dX10_firstTwo_39 rfl (by decide) rfl ?_
        refine z_goto (pc := 42) (tgt := 14) hR dX10_firstTwo_42 (by decide) ?_
        refine z_pick (pc := 14) (lv' := [(0, 2, 15), (1, 2, a1), (2, 0, x1), (3, 0, (w32 (x3 + 1)))]) hR [1, 2, 3, 0] rfl ?_
        exact hh14 ((w32 (x3 + 1)))
      · refine z_bipush (pc := 32) hR dX10_firstTwo_32 rfl ?_
        refine z_iload_n (pc := 34) hR 2 dX10_firstTwo_34 rfl rfl ?_
        refine z_imul (pc := 35) hR dX10_firstTwo_35 ?_
        refine z_iload_n (pc := 36) hR 3 dX10_firstTwo_36 rfl rfl ?_
        refine z_iadd (pc := 37) hR dX10_firstTwo_37 ?_
        exact z_ireturn (pc := 38) hR rfl rfl dX10_firstTwo_38 rfl
theorem dJ6_bitCount_0f7a4_0 : decode cJ6_bitCount_0f7a4 0 = .ok (.iload_n 0, 1) := by decide +kernel
theorem dJ6_bitCount_0f7a4_1 : decode cJ6_bitCount_0f7a4 1 = .ok (.iload_n 0, 1) := by decide +kernel
theorem dJ6_bitCount_0f7a4_2 : decode cJ6_bitCount_0f7a4 2 = .ok (.iconst 1, 1) := by decide +kernel
theorem dJ6_bitCount_0f7a4_3 : decode cJ6_bitCount_0f7a4 3 = .ok (.iushr, 1) := by decide +kernel
theorem dJ6_bitCount_0f7a4_4 : decode cJ6_bitCount_0f7a4 4 = .ok (.ldc_w 265, 3) := by decide +kernel
theorem dJ6_bitCount_0f7a4_7 : decode cJ6_bitCount_0f7a4 7 = .ok (.iand, 1) := by decide +kernel
theorem dJ6_bitCount_0f7a4_8 : decode cJ6_bitCount_0f7a4 8 = .ok (.isub, 1) := by decide +kernel
theorem dJ6_bitCount_0f7a4_9 : decode cJ6_bitCount_0f7a4 9 = .ok (.istore_n 0, 1) := by decide +kernel
theorem dJ6_bitCount_0f7a4_10 : decode cJ6_bitCount_0f7a4 10 = .ok (.iload_n 0, 1) := by decide +kernel
theorem dJ6_bitCount_0f7a4_11 : decode cJ6_bitCount_0f7a4 11 = .ok (.ldc_w 266, 3) := by decide +kernel
theorem dJ6_bitCount_0f7a4_14 : decode cJ6_bitCount_0f7a4 14 = .ok (.iand, 1) := by decide +kernel
theorem dJ6_bitCount_0f7a4_15 : decode cJ6_bitCount_0f7a4 15 = .ok (.iload_n 0, 1) := by decide +kernel
theorem dJ6_bitCount_0f7a4_16 : decode cJ6_bitCount_0f7a4 16 = .ok (.iconst 2, 1) := by decide +kernel
theorem dJ6_bitCount_0f7a4_17 : decode cJ6_bitCount_0f7a4 17 = .ok (.iushr, 1) := by decide +kernel
theorem dJ6_bitCount_0f7a4_18 : decode cJ6_bitCount_0f7a4 18 = .ok (.ldc_w 266, 3) := by decide +kernel
theorem dJ6_bitCount_0f7a4_21 : decode cJ6_bitCount_0f7a4 21 = .ok (.iand, 1) := by decide +kernel
theorem dJ6_bitCount_0f7a4_22 : decode cJ6_bitCount_0f7a4 22 = .ok (.iadd, 1) := by decide +kernel
theorem dJ6_bitCount_0f7a4_23 : decode cJ6_bitCount_0f7a4 23 = .ok (.istore_n 0, 1) := by decide +kernel
theorem dJ6_bitCount_0f7a4_24 : decode cJ6_bitCount_0f7a4 24 = .ok (.iload_n 0, 1) := by decide +kernel
theorem dJ6_bitCount_0f7a4_25 : decode cJ6_bitCount_0f7a4 25 = .ok (.iload_n 0, 1) := by decide +kernel
theorem dJ6_bitCount_0f7a4_26 : decode cJ6_bitCount_0f7a4 26 = .ok (.iconst 4, 1) := by decide +kernel
theorem dJ6_bitCount_0f7a4_27 : decode cJ6_bitCount_0f7a4 27 = .ok (.iushr, 1) := by decide +kernel
theorem dJ6_bitCount_0f7a4_28 : decode cJ6_bitCount_0f7a4 28 = .ok (.iadd, 1) := by decide +kernel
theorem dJ6_bitCount_0f7a4_29 : decode cJ6_bitCount_0f7a4 29 = .ok (.ldc_w 267, 3) := by decide +kernel
theorem dJ6_bitCount_0f7a4_32 : decode cJ6_bitCount_0f7a4 32 = .ok (.iand, 1) := by decide +kernel
theorem dJ6_bitCount_0f7a4_33 : decode cJ6_bitCount_0f7a4 33 = .ok (.istore_n 0, 1) := by decide +kernel
theorem dJ6_bitCount_0f7a4_34 : decode cJ6_bitCount_0f7a4 34 = .ok (.iload_n 0, 1) := by decide +kernel
theorem dJ6_bitCount_0f7a4_35 : decode cJ6_bitCount_0f7a4 35 = .ok (.iload_n 0, 1) := by decide +kernel
theorem dJ6_bitCount_0f7a4_36 : decode cJ6_bitCount_0f7a4 36 = .ok (.bipush 8, 2) := by decide +kernel
theorem dJ6_bitCount_0f7a4_38 : decode cJ6_bitCount_0f7a4 38 = .ok (.iushr, 1) := by decide +kernel
theorem dJ6_bitCount_0f7a4_39 : decode cJ6_bitCount_0f7a4 39 = .ok (.iadd, 1) := by decide +kernel
theorem dJ6_bitCount_0f7a4_40 : decode cJ6_bitCount_0f7a4 40 = .ok (.istore_n 0, 1) := by decide +kernel
theorem dJ6_bitCount_0f7a4_41 : decode cJ6_bitCount_0f7a4 41 = .ok (.iload_n 0, 1) := by decide +kernel
theorem dJ6_bitCount_0f7a4_42 : decode cJ6_bitCount_0f7a4 42 = .ok (.iload_n 0, 1) := by decide +kernel
theorem dJ6_bitCount_0f7a4_43 : decode cJ6_bitCount_0f7a4 43 = .ok (.bipush 16, 2) := by decide +kernel
theorem dJ6_bitCount_0f7a4_45 : decode cJ6_bitCount_0f7a4 45 = .ok (.iushr, 1) := by decide +kernel
theorem dJ6_bitCount_0f7a4_46 : decode cJ6_bitCount_0f7a4 46 = .ok (.iadd, 1) := by decide +kernel
theorem dJ6_bitCount_0f7a4_47 : decode cJ6_bitCount_0f7a4 47 = .ok (.istore_n 0, 1) := by decide +kernel
theorem dJ6_bitCount_0f7a4_48 : decode cJ6_bitCount_0f7a4 48 = .ok (.iload_n 0, 1) := by decide +kernel
theorem dJ6_bitCount_0f7a4_49 : decode cJ6_bitCount_0f7a4 49 = .ok (.bipush 63, 2) := by decide +kernel
theorem dJ6_bitCount_0f7a4_51 : decode cJ6_bitCount_0f7a4 51 = .ok (.iand, 1) := by decide +kernel
theorem dJ6_bitCount_0f7a4_52 : decode cJ6_bitCount_0f7a4 52 = .ok (.ireturn, 1) := by decide +kernel
def Jn_bitCount (N : Nat) (a0 : Int) (M : jMem) : Option Int := jlt ((w32 (a0 - ((jand ((jushr a0 1)) 1431655765))))) fun v1 => jlt ((w32 (((jand v1 858993459)) + ((jand ((jushr v1 2)) 858993459))))) fun v2 => jlt ((jand ((w32 (v2 + ((jushr v2 4))))) 252645135)) fun v3 => jlt ((w32 (v3 + ((jushr v3 8))))) fun v4 => jlt ((w32 (v4 + ((jushr v4 16))))) fun v5 => some ((jand v5 63))
theorem c_Jn_bitCount {l : Launch} {g : jG} (N : Nat) (a0 : Int) (M : jMem)  : ∀ o, Jn_bitCount N a0 M = some o → jCt l g jTX yJ6_bitCount_0f7a4 cJ6_bitCount_0f7a4 1 (some .int) 0 1 [(0, a0)] M (o, M) := by
  refine jMet (own := RJ6) (em := (fun r => (r, M))) (L := [(0, 0, a0)]) (by decide +kernel) rfl (Nat.le_of_ble_eq_true rfl) rfl (fun K hR => ?_)
  unfold Jn_bitCount
  refine z_iload_n (pc := 0) hR 0 dJ6_bitCount_0f7a4_0 rfl rfl ?_
  refine z_iload_n (pc := 1) hR 0 dJ6_bitCount_0f7a4_1 rfl rfl ?_
  refine z_iconst (pc := 2) hR dJ6_bitCount_0f7a4_2 rfl ?_
  refine z_iushr (pc := 3) hR dJ6_bitCount_0f7a4_3 ?_
  refine z_ldcw (pc := 4) hR (n := 1431655765) jc_RJ6_265 (by decide) rfl dJ6_bitCount_0f7a4_4 ?_
  refine z_iand (pc := 7) hR dJ6_bitCount_0f7a4_7 ?_
  refine z_isub (pc := 8) hR dJ6_bitCount_0f7a4_8 ?_
  refine z_let1 (fun v1 => ?_)
  refine z_istore_n (pc := 9) hR (lv' := [(0, 0, v1)]) dJ6_bitCount_0f7a4_9 rfl (by decide) rfl ?_
  refine z_iload_n (pc := 10) hR 0 dJ6_bitCount_0f7a4_10 rfl rfl ?_
  refine z_ldcw (pc := 11) hR (n := 858993459) jc_RJ6_266 (by decide) rfl dJ6_bitCount_0f7a4_11 ?_
  refine z_iand (pc := 14) hR dJ6_bitCount_0f7a4_14 ?_
  refine z_iload_n (pc := 15) hR 0 dJ6_bitCount_0f7a4_15 rfl rfl ?_
  refine z_iconst (pc := 16) hR dJ6_bitCount_0f7a4_16 rfl ?_
  refine z_iushr (pc := 17) hR dJ6_bitCount_0f7a4_17 ?_
  refine z_ldcw (pc := 18) hR (n := 858993459) jc_RJ6_266 (by decide) rfl dJ6_bitCount_0f7a4_18 ?_
  refine z_iand (pc := 21) hR dJ6_bitCount_0f7a4_21 ?_
  refine z_iadd (pc := 22) hR dJ6_bitCount_0f7a4_22 ?_
  refine z_let1 (fun v2 => ?_)
  refine z_istore_n (pc := 23) hR (lv' := [(0, 0, v2)]) dJ6_bitCount_0f7a4_23 rfl (by decide) rfl ?_
  refine z_iload_n (pc := 24) hR 0 dJ6_bitCount_0f7a4_24 rfl rfl ?_
  refine z_iload_n (pc := 25) hR 0 dJ6_bitCount_0f7a4_25 rfl rfl ?_
  refine z_iconst (pc := 26) hR dJ6_bitCount_0f7a4_26 rfl ?_
  refine z_iushr (pc := 27) hR dJ6_bitCount_0f7a4_27 ?_
  refine z_iadd (pc := 28) hR dJ6_bitCount_0f7a4_28 ?_
  refine z_ldcw (pc := 29) hR (n := 252645135) jc_RJ6_267 (by decide) rfl dJ6_bitCount_0f7a4_29 ?_
  refine z_iand (pc := 32) hR dJ6_bitCount_0f7a4_32 ?_
  refine z_let1 (fun v3 => ?_)
  refine z_istore_n (pc := 33) hR (lv' := [(0, 0, v3)]) dJ6_bitCount_0f7a4_33 rfl (by decide) rfl ?_
  refine z_iload_n (pc := 34) hR 0 dJ6_bitCount_0f7a4_34 rfl rfl ?_
  refine z_iload_n (pc := 35) hR 0 dJ6_bitCount_0f7a4_35 rfl rfl ?_
  refine z_bipush (pc := 36) hR dJ6_bitCount_0f7a4_36 rfl ?_
  refine z_iushr (pc := 38) hR dJ6_bitCount_0f7a4_38 ?_
  refine z_iadd (pc := 39) hR dJ6_bitCount_0f7a4_39 ?_
  refine z_let1 (fun v4 => ?_)
  refine z_istore_n (pc := 40) hR (lv' := [(0, 0, v4)]) dJ6_bitCount_0f7a4_40 rfl (by decide) rfl ?_
  refine z_iload_n (pc := 41) hR 0 dJ6_bitCount_0f7a4_41 rfl rfl ?_
  refine z_iload_n (pc := 42) hR 0 dJ6_bitCount_0f7a4_42 rfl rfl ?_
  refine z_bipush (pc := 43) hR dJ6_bitCount_0f7a4_43 rfl ?_
  refine z_iushr (pc := 45) hR dJ6_bitCount_0f7a4_45 ?_
  refine z_iadd (pc := 46) hR dJ6_bitCount_0f7a4_46 ?_
  refine z_let1 (fun v5 => ?_)
  refine z_istore_n (pc := 47) hR (lv' := [(0, 0, v5)]) dJ6_bitCount_0f7a4_47 rfl (by decide) rfl ?_
  refine z_iload_n (pc := 48) hR 0 dJ6_bitCount_0f7a4_48 rfl rfl ?_
  refine z_bipush (pc := 49) hR dJ6_bitCount_0f7a4_49 rfl ?_
  refine z_iand (pc := 51) hR dJ6_bitCount_0f7a4_51 ?_
  exact z_ireturn (pc := 52) hR rfl rfl dJ6_bitCount_0f7a4_52 rfl
theorem dX7_homes_0 : decode cX7_homes 0 = .ok (.aload_n 0, 1) := by decide +kernel
theorem dX7_homes_1 : decode cX7_homes 1 = .ok (.invokevirtual 46, 3) := by decide +kernel
theorem dX7_homes_4 : decode cX7_homes 4 = .ok (.invokestatic 50, 3) := by decide +kernel
theorem dX7_homes_7 : decode cX7_homes 7 = .ok (.ireturn, 1) := by decide +kernel
def St_homes (N : Nat) (q : Int) (M : jMem) : Option Int := (St_homeBits N q M).bind fun r1 => (Jn_bitCount N r1 M).bind fun r2 => some r2
theorem c_St_homes {l : Launch} {g : jG} (N : Nat) (q : Int) (M : jMem) (hq : jk jTX q 7) : ∀ o, St_homes N q M = some o → jCt l g jTX yX7_homes cX7_homes 1 (some .int) 0 3 [(2, q)] M (o, M) := by
  refine jMet (own := RX7) (em := (fun r => (r, M))) (L := [(0, 2, q)]) (by decide +kernel) rfl (Nat.le_of_ble_eq_true rfl) rfl (fun K hR => ?_)
  unfold St_homes
  refine z_aload_n (pc := 0) hR 0 dX7_homes_0 rfl rfl ?_
  refine z_callvp (pc := 1) hR (As := []) (st := []) jm_X7_homeBits jl_RX7_46 hq (by decide) rfl (by decide) (c_St_homeBits N q M hq) rfl (by decide) (by decide) rfl (Nat.le_of_ble_eq_true rfl) dX7_homes_1 (fun r1 => ?_)
  refine z_callsp (pc := 4) hR (As := [(0, r1)]) (st := []) jm_J6_bitCount_0f7a4 jl_RX7_50 (by decide) (c_Jn_bitCount N r1 M) rfl (by decide) (by decide) rfl (Nat.le_of_ble_eq_true rfl) dX7_homes_4 (fun r2 => ?_)
  exact z_ireturn (pc := 7) hR rfl rfl dX7_homes_7 rfl
theorem dX7_dries_0 : decode cX7_dries 0 = .ok (.iconst 0, 1) := by decide +kernel
theorem dX7_dries_1 : decode cX7_dries 1 = .ok (.istore_n 1, 1) := by decide +kernel
theorem dX7_dries_2 : decode cX7_dries 2 = .ok (.iconst 0, 1) := by decide +kernel
theorem dX7_dries_3 : decode cX7_dries 3 = .ok (.istore_n 2, 1) := by decide +kernel
theorem dX7_dries_4 : decode cX7_dries 4 = .ok (.iload_n 2, 1) := by decide +kernel
theorem dX7_dries_5 : decode cX7_dries 5 = .ok (.aload_n 0, 1) := by decide +kernel
theorem dX7_dries_6 : decode cX7_dries 6 = .ok (.getfield 27, 3) := by decide +kernel
theorem dX7_dries_9 : decode cX7_dries 9 = .ok (.if_icmp .ge 21, 3) := by decide +kernel
theorem dX7_dries_12 : decode cX7_dries 12 = .ok (.aload_n 0, 1) := by decide +kernel
theorem dX7_dries_13 : decode cX7_dries 13 = .ok (.getfield 18, 3) := by decide +kernel
theorem dX7_dries_16 : decode cX7_dries 16 = .ok (.iload_n 2, 1) := by decide +kernel
theorem dX7_dries_17 : decode cX7_dries 17 = .ok (.iaload, 1) := by decide +kernel
theorem dX7_dries_18 : decode cX7_dries 18 = .ok (.ifCond .ne 6, 3) := by decide +kernel
theorem dX7_dries_21 : decode cX7_dries 21 = .ok (.iinc 1 1, 3) := by decide +kernel
theorem dX7_dries_24 : decode cX7_dries 24 = .ok (.iinc 2 1, 3) := by decide +kernel
theorem dX7_dries_27 : decode cX7_dries 27 = .ok (.goto (-23), 3) := by decide +kernel
theorem dX7_dries_30 : decode cX7_dries 30 = .ok (.iload_n 1, 1) := by decide +kernel
theorem dX7_dries_31 : decode cX7_dries 31 = .ok (.ireturn, 1) := by decide +kernel
def St_dries_L4 (N : Nat) (q : Int) (M : jMem) (h4 : (Int × Int) → Option Int) : Int × Int → Option Int
  | (x1, x2) => (if x2 < (M q 0) then jchk (0 ≤ x2 ∧ x2 < 7) <| (if (M ((q + 3)) x2) = 0 then h4 ((w32 (x1 + 1)), (w32 (x2 + 1))) else h4 (x1, (w32 (x2 + 1)))) else some x1)
def St_dries (N : Nat) (q : Int) (M : jMem) : Option Int := jfix N (St_dries_L4 N q M) (0, 0)
theorem c_St_dries {l : Launch} {g : jG} (N : Nat) (q : Int) (M : jMem) (hq : jk jTX q 7) : ∀ o, St_dries N q M = some o → jCt l g jTX yX7_dries cX7_dries 3 (some .int) 0 1 [(2, q)] M (o, M) := by
  refine jMet (own := RX7) (em := (fun r => (r, M))) (L := [(0, 2, q)]) (by decide +kernel) rfl (Nat.le_of_ble_eq_true rfl) rfl (fun K hR => ?_)
  unfold St_dries
  refine z_iconst (pc := 0) hR dX7_dries_0 rfl ?_
  refine z_istore_n (pc := 1) hR (lv' := [(1, 0, 0), (0, 2, q)]) dX7_dries_1 rfl (by decide) rfl ?_
  refine z_iconst (pc := 2) hR dX7_dries_2 rfl ?_
  refine z_istore_n (pc := 3) hR (lv' := [(2, 0, 0), (1, 0, 0), (0, 2, q)]) dX7_dries_3 rfl (by decide) rfl ?_
  refine z_pick (pc := 4) (lv' := [(0, 2, q), (1, 0, 0), (2, 0, 0)]) hR [2, 1, 0] rfl ?_
  refine z_fix (σ := Int × Int) (lv := fun s => [(0, 2, q), (1, 0, s.1), (2, 0, s.2)]) (st := fun _ => []) (M := fun _ => M) (fun h4 hh4 => ?_) N (0, 0)
  rintro ⟨x1, x2⟩
  show jZ K (fun r => (r, M)) 4 [(0, 2, q), (1, 0, x1), (2, 0, x2)] [] M _
  unfold St_dries_L4
  refine z_iload_n (pc := 4) hR 2 dX7_dries_4 rfl rfl ?_
  refine z_aload_n (pc := 5) hR 0 dX7_dries_5 rfl rfl ?_
  refine z_geti (pc := 6) hR (j := 0) jf_RX7_27 hq (by decide) rfl rfl dX7_dries_6 ?_
  refine z_icmpge (pc := 9) (tgt := 30) hR dX7_dries_9 (by decide) ?_ ?_
  · refine z_iload_n (pc := 30) hR 1 dX7_dries_30 rfl rfl ?_
    exact z_ireturn (pc := 31) hR rfl rfl dX7_dries_31 rfl
  · refine z_aload_n (pc := 12) hR 0 dX7_dries_12 rfl rfl ?_
    refine z_getr (pc := 13) hR (c0 := 3) (r := (q + 3)) jf_RX7_18 hq (by decide) rfl rfl dX7_dries_13 ?_
    refine z_iload_n (pc := 16) hR 2 dX7_dries_16 rfl rfl ?_
    refine z_chk (fun hc3 => ?_)
    refine z_iald (pc := 17) hR (n := 7) (kf_7_water hq) hc3.1 hc3.2 dX7_dries_17 ?_
    refine z_ifne (pc := 18) (tgt := 24) hR dX7_dries_18 (by decide) ?_ ?_
    · refine z_iinc (pc := 24) hR (j := 2) (lv' := [(2, 0, (w32 (x2 + 1))), (0, 2, q), (1, 0, x1)]) dX7_dries_24 rfl (by decide) rfl ?_
      refine z_goto (pc := 27) (tgt := 4) hR dX7_dries_27 (by decide) ?_
      refine z_pick (pc := 4) (lv' := [(0, 2, q), (1, 0, x1), (2, 0, (w32 (x2 + 1)))]) hR [1, 2, 0] rfl ?_
      exact hh4 (x1, (w32 (x2 + 1)))
    · refine z_iinc (pc := 21) hR (j := 1) (lv' := [(1, 0, (w32 (x1 + 1))), (0, 2, q), (2, 0, x2)]) dX7_dries_21 rfl (by decide) rfl ?_
      refine z_iinc (pc := 24) hR (j := 2) (lv' := [(2, 0, (w32 (x2 + 1))), (1, 0, (w32 (x1 + 1))), (0, 2, q)]) dX7_dries_24 rfl (by decide) rfl ?_
      refine z_goto (pc := 27) (tgt := 4) hR dX7_dries_27 (by decide) ?_
      refine z_pick (pc := 4) (lv' := [(0, 2, q), (1, 0, (w32 (x1 + 1))), (2, 0, (w32 (x2 + 1)))]) hR [2, 1, 0] rfl ?_
      exact hh4 ((w32 (x1 + 1)), (w32 (x2 + 1)))
theorem dX10_tellTwo_0 : decode cX10_tellTwo 0 = .ok (.aload_n 1, 1) := by decide +kernel
theorem dX10_tellTwo_1 : decode cX10_tellTwo 1 = .ok (.getfield 78, 3) := by decide +kernel
theorem dX10_tellTwo_4 : decode cX10_tellTwo 4 = .ok (.iload_n 2, 1) := by decide +kernel
theorem dX10_tellTwo_5 : decode cX10_tellTwo 5 = .ok (.iaload, 1) := by decide +kernel
theorem dX10_tellTwo_6 : decode cX10_tellTwo 6 = .ok (.istore 4, 2) := by decide +kernel
theorem dX10_tellTwo_8 : decode cX10_tellTwo 8 = .ok (.aload_n 1, 1) := by decide +kernel
theorem dX10_tellTwo_9 : decode cX10_tellTwo 9 = .ok (.getfield 78, 3) := by decide +kernel
theorem dX10_tellTwo_12 : decode cX10_tellTwo 12 = .ok (.iload_n 3, 1) := by decide +kernel
theorem dX10_tellTwo_13 : decode cX10_tellTwo 13 = .ok (.iaload, 1) := by decide +kernel
theorem dX10_tellTwo_14 : decode cX10_tellTwo 14 = .ok (.istore 5, 2) := by decide +kernel
theorem dX10_tellTwo_16 : decode cX10_tellTwo 16 = .ok (.aload_n 0, 1) := by decide +kernel
theorem dX10_tellTwo_17 : decode cX10_tellTwo 17 = .ok (.getfield 15, 3) := by decide +kernel
theorem dX10_tellTwo_20 : decode cX10_tellTwo 20 = .ok (.iconst 0, 1) := by decide +kernel
theorem dX10_tellTwo_21 : decode cX10_tellTwo 21 = .ok (.iload_n 2, 1) := by decide +kernel
theorem dX10_tellTwo_22 : decode cX10_tellTwo 22 = .ok (.i2l, 1) := by decide +kernel
theorem dX10_tellTwo_23 : decode cX10_tellTwo 23 = .ok (.lastore, 1) := by decide +kernel
theorem dX10_tellTwo_24 : decode cX10_tellTwo 24 = .ok (.aload_n 0, 1) := by decide +kernel
theorem dX10_tellTwo_25 : decode cX10_tellTwo 25 = .ok (.getfield 15, 3) := by decide +kernel
theorem dX10_tellTwo_28 : decode cX10_tellTwo 28 = .ok (.iconst 1, 1) := by decide +kernel
theorem dX10_tellTwo_29 : decode cX10_tellTwo 29 = .ok (.iload_n 3, 1) := by decide +kernel
theorem dX10_tellTwo_30 : decode cX10_tellTwo 30 = .ok (.i2l, 1) := by decide +kernel
theorem dX10_tellTwo_31 : decode cX10_tellTwo 31 = .ok (.lastore, 1) := by decide +kernel
theorem dX10_tellTwo_32 : decode cX10_tellTwo 32 = .ok (.aload_n 0, 1) := by decide +kernel
theorem dX10_tellTwo_33 : decode cX10_tellTwo 33 = .ok (.getfield 15, 3) := by decide +kernel
theorem dX10_tellTwo_36 : decode cX10_tellTwo 36 = .ok (.iconst 2, 1) := by decide +kernel
theorem dX10_tellTwo_37 : decode cX10_tellTwo 37 = .ok (.iload 4, 2) := by decide +kernel
theorem dX10_tellTwo_39 : decode cX10_tellTwo 39 = .ok (.i2l, 1) := by decide +kernel
theorem dX10_tellTwo_40 : decode cX10_tellTwo 40 = .ok (.lastore, 1) := by decide +kernel
theorem dX10_tellTwo_41 : decode cX10_tellTwo 41 = .ok (.aload_n 0, 1) := by decide +kernel
theorem dX10_tellTwo_42 : decode cX10_tellTwo 42 = .ok (.getfield 15, 3) := by decide +kernel
theorem dX10_tellTwo_45 : decode cX10_tellTwo 45 = .ok (.iconst 3, 1) := by decide +kernel
theorem dX10_tellTwo_46 : decode cX10_tellTwo 46 = .ok (.iload 5, 2) := by decide +kernel
theorem dX10_tellTwo_48 : decode cX10_tellTwo 48 = .ok (.i2l, 1) := by decide +kernel
theorem dX10_tellTwo_49 : decode cX10_tellTwo 49 = .ok (.lastore, 1) := by decide +kernel
theorem dX10_tellTwo_50 : decode cX10_tellTwo 50 = .ok (.aload_n 0, 1) := by decide +kernel
theorem dX10_tellTwo_51 : decode cX10_tellTwo 51 = .ok (.getfield 15, 3) := by decide +kernel
theorem dX10_tellTwo_54 : decode cX10_tellTwo 54 = .ok (.iconst 4, 1) := by decide +kernel
theorem dX10_tellTwo_55 : decode cX10_tellTwo 55 = .ok (.aload_n 1, 1) := by decide +kernel
theorem dX10_tellTwo_56 : decode cX10_tellTwo 56 = .ok (.getfield 81, 3) := by decide +kernel
theorem dX10_tellTwo_59 : decode cX10_tellTwo 59 = .ok (.iload 4, 2) := by decide +kernel
theorem dX10_tellTwo_61 : decode cX10_tellTwo 61 = .ok (.iaload, 1) := by decide +kernel
theorem dX10_tellTwo_62 : decode cX10_tellTwo 62 = .ok (.i2l, 1) := by decide +kernel
theorem dX10_tellTwo_63 : decode cX10_tellTwo 63 = .ok (.lastore, 1) := by decide +kernel
theorem dX10_tellTwo_64 : decode cX10_tellTwo 64 = .ok (.aload_n 0, 1) := by decide +kernel
theorem dX10_tellTwo_65 : decode cX10_tellTwo 65 = .ok (.getfield 15, 3) := by decide +kernel
theorem dX10_tellTwo_68 : decode cX10_tellTwo 68 = .ok (.iconst 5, 1) := by decide +kernel
theorem dX10_tellTwo_69 : decode cX10_tellTwo 69 = .ok (.aload_n 1, 1) := by decide +kernel
theorem dX10_tellTwo_70 : decode cX10_tellTwo 70 = .ok (.getfield 81, 3) := by decide +kernel
theorem dX10_tellTwo_73 : decode cX10_tellTwo 73 = .ok (.iload 5, 2) := by decide +kernel
theorem dX10_tellTwo_75 : decode cX10_tellTwo 75 = .ok (.iaload, 1) := by decide +kernel
theorem dX10_tellTwo_76 : decode cX10_tellTwo 76 = .ok (.i2l, 1) := by decide +kernel
theorem dX10_tellTwo_77 : decode cX10_tellTwo 77 = .ok (.lastore, 1) := by decide +kernel
theorem dX10_tellTwo_78 : decode cX10_tellTwo 78 = .ok (.aload_n 0, 1) := by decide +kernel
theorem dX10_tellTwo_79 : decode cX10_tellTwo 79 = .ok (.getfield 15, 3) := by decide +kernel
theorem dX10_tellTwo_82 : decode cX10_tellTwo 82 = .ok (.bipush 6, 2) := by decide +kernel
theorem dX10_tellTwo_84 : decode cX10_tellTwo 84 = .ok (.aload_n 1, 1) := by decide +kernel
theorem dX10_tellTwo_85 : decode cX10_tellTwo 85 = .ok (.getfield 84, 3) := by decide +kernel
theorem dX10_tellTwo_88 : decode cX10_tellTwo 88 = .ok (.iload 4, 2) := by decide +kernel
theorem dX10_tellTwo_90 : decode cX10_tellTwo 90 = .ok (.iaload, 1) := by decide +kernel
theorem dX10_tellTwo_91 : decode cX10_tellTwo 91 = .ok (.i2l, 1) := by decide +kernel
theorem dX10_tellTwo_92 : decode cX10_tellTwo 92 = .ok (.lastore, 1) := by decide +kernel
theorem dX10_tellTwo_93 : decode cX10_tellTwo 93 = .ok (.aload_n 0, 1) := by decide +kernel
theorem dX10_tellTwo_94 : decode cX10_tellTwo 94 = .ok (.getfield 15, 3) := by decide +kernel
theorem dX10_tellTwo_97 : decode cX10_tellTwo 97 = .ok (.bipush 7, 2) := by decide +kernel
theorem dX10_tellTwo_99 : decode cX10_tellTwo 99 = .ok (.aload_n 1, 1) := by decide +kernel
theorem dX10_tellTwo_100 : decode cX10_tellTwo 100 = .ok (.getfield 84, 3) := by decide +kernel
theorem dX10_tellTwo_103 : decode cX10_tellTwo 103 = .ok (.iload 5, 2) := by decide +kernel
theorem dX10_tellTwo_105 : decode cX10_tellTwo 105 = .ok (.iaload, 1) := by decide +kernel
theorem dX10_tellTwo_106 : decode cX10_tellTwo 106 = .ok (.i2l, 1) := by decide +kernel
theorem dX10_tellTwo_107 : decode cX10_tellTwo 107 = .ok (.lastore, 1) := by decide +kernel
theorem dX10_tellTwo_108 : decode cX10_tellTwo 108 = .ok (.aload_n 0, 1) := by decide +kernel
theorem dX10_tellTwo_109 : decode cX10_tellTwo 109 = .ok (.getfield 15, 3) := by decide +kernel
theorem dX10_tellTwo_112 : decode cX10_tellTwo 112 = .ok (.bipush 8, 2) := by decide +kernel
theorem dX10_tellTwo_114 : decode cX10_tellTwo 114 = .ok (.aload_n 1, 1) := by decide +kernel
theorem dX10_tellTwo_115 : decode cX10_tellTwo 115 = .ok (.getfield 87, 3) := by decide +kernel
theorem dX10_tellTwo_118 : decode cX10_tellTwo 118 = .ok (.iload_n 2, 1) := by decide +kernel
theorem dX10_tellTwo_119 : decode cX10_tellTwo 119 = .ok (.iaload, 1) := by decide +kernel
theorem dX10_tellTwo_120 : decode cX10_tellTwo 120 = .ok (.aload_n 1, 1) := by decide +kernel
theorem dX10_tellTwo_121 : decode cX10_tellTwo 121 = .ok (.getfield 87, 3) := by decide +kernel
theorem dX10_tellTwo_124 : decode cX10_tellTwo 124 = .ok (.iload_n 3, 1) := by decide +kernel
theorem dX10_tellTwo_125 : decode cX10_tellTwo 125 = .ok (.iaload, 1) := by decide +kernel
theorem dX10_tellTwo_126 : decode cX10_tellTwo 126 = .ok (.iadd, 1) := by decide +kernel
theorem dX10_tellTwo_127 : decode cX10_tellTwo 127 = .ok (.i2l, 1) := by decide +kernel
theorem dX10_tellTwo_128 : decode cX10_tellTwo 128 = .ok (.lastore, 1) := by decide +kernel
theorem dX10_tellTwo_129 : decode cX10_tellTwo 129 = .ok (.return_, 1) := by decide +kernel
def Ye_tellTwo (N : Nat) (q a1 a2 a3 : Int) (M : jMem) : Option (Int × jMem) := jchk (0 ≤ a2 ∧ a2 < 7) <| jlt ((M ((a1 + 4)) a2)) fun v2 => jchk (0 ≤ a3 ∧ a3 < 7) <| jlt ((M ((a1 + 4)) a3)) fun v4 => jlt (up M ((q + 2)) 0 a2) fun M5 => jlt (up M5 ((q + 2)) 1 a3) fun M6 => jlt (up M6 ((q + 2)) 2 v2) fun M7 => jlt (up M7 ((q + 2)) 3 v4) fun M8 => jchk (0 ≤ v2 ∧ v2 < 7) <| jlt (up M8 ((q + 2)) 4 ((M8 ((a1 + 2)) v2))) fun M10 => jchk (0 ≤ v4 ∧ v4 < 7) <| jlt (up M10 ((q + 2)) 5 ((M10 ((a1 + 2)) v4))) fun M12 => jchk (0 ≤ v2 ∧ v2 < 7) <| jlt (up M12 ((q + 2)) 6 ((M12 ((a1 + 3)) v2))) fun M14 => jchk (0 ≤ v4 ∧ v4 < 7) <| jlt (up M14 ((q + 2)) 7 ((M14 ((a1 + 3)) v4))) fun M16 => jchk (0 ≤ a2 ∧ a2 < 7) <| jchk (0 ≤ a3 ∧ a3 < 7) <| jlt (up M16 ((q + 2)) 8 ((w32 (((M16 ((a1 + 5)) a2)) + ((M16 ((a1 + 5)) a3)))))) fun M19 => some (0, M19)
theorem c_Ye_tellTwo {l : Launch} {g : jG} (N : Nat) (q a1 a2 a3 : Int) (M : jMem) (hq : jk jTX q 10) (ha1 : jk jTX a1 7) : ∀ o, Ye_tellTwo N q a1 a2 a3 M = some o → jCt l g jTX yX10_tellTwo cX10_tellTwo 6 none 3 1 [(2, q), (2, a1), (0, a2), (0, a3)] M o := by
  refine jMet (own := RX10) (em := id) (L := [(0, 2, q), (1, 2, a1), (2, 0, a2), (3, 0, a3)]) (by decide +kernel) rfl (Nat.le_of_ble_eq_true rfl) rfl (fun K hR => ?_)
  unfold Ye_tellTwo
  refine z_aload_n (pc := 0) hR 1 dX10_tellTwo_0 rfl rfl ?_
  refine z_getr (pc := 1) hR (c0 := 4) (r := (a1 + 4)) jf_RX10_78 ha1 (by decide) rfl rfl dX10_tellTwo_1 ?_
  refine z_iload_n (pc := 4) hR 2 dX10_tellTwo_4 rfl rfl ?_
  refine z_chk (fun hc1 => ?_)
  refine z_iald (pc := 5) hR (n := 7) (kf_7_has ha1) hc1.1 hc1.2 dX10_tellTwo_5 ?_
  refine z_let1 (fun v2 => ?_)
  refine z_istore (pc := 6) hR (lv' := [(4, 0, v2), (0, 2, q), (1, 2, a1), (2, 0, a2), (3, 0, a3)]) dX10_tellTwo_6 (by decide) rfl ?_
  refine z_aload_n (pc := 8) hR 2 dX10_tellTwo_8 rfl rfl ?_
  refine z_getr (pc := 9) hR (c0 := 4) (r := (a1 + 4)) jf_RX10_78 ha1 (by decide) rfl rfl dX10_tellTwo_9 ?_
  refine z_iload_n (pc := 12) hR 4 dX10_tellTwo_12 rfl rfl ?_
  refine z_chk (fun hc3 => ?_)
  refine z_iald (pc := 13) hR (n := 7) (kf_7_has ha1) hc3.1 hc3.2 dX10_tellTwo_13 ?_
  refine z_let1 (fun v4 => ?_)
  refine z_istore (pc := 14) hR (lv' := [(5, 0, v4), (4, 0, v2), (0, 2, q), (1, 2, a1), (2, 0, a2), (3, 0, a3)]) dX10_tellTwo_14 (by decide) rfl ?_
  refine z_aload_n (pc := 16) hR 2 dX10_tellTwo_16 rfl rfl ?_
  refine z_getr (pc := 17) hR (c0 := 2) (r := (q + 2)) jf_RX10_15 hq (by decide) rfl rfl dX10_tellTwo_17 ?_
  refine z_iconst (pc := 20) hR dX10_tellTwo_20 rfl ?_
  refine z_iload_n (pc := 21) hR 4 dX10_tellTwo_21 rfl rfl ?_
  refine z_i2l (pc := 22) hR dX10_tellTwo_22 ?_
  refine z_last (pc := 23) hR (n := 12) (kf_10_words hq) (by decide) (by decide) dX10_tellTwo_23 (fun M5 => ?_)
  refine z_aload_n (pc := 24) hR 2 dX10_tellTwo_24 rfl rfl ?_
  refine z_getr (pc := 25) hR (c0 := 2) (r := (q + 2)) jf_RX10_15 hq (by decide) rfl rfl dX10_tellTwo_25 ?_
  refine z_iconst (pc := 28) hR dX10_tellTwo_28 rfl ?_
  refine z_iload_n (pc := 29) hR 5 dX10_tellTwo_29 rfl rfl ?_
  refine z_i2l (pc := 30) hR dX10_tellTwo_30 ?_
  refine z_last (pc := 31) hR (n := 12) (kf_10_words hq) (by decide) (by decide) dX10_tellTwo_31 (fun M6 => ?_)
  refine z_aload_n (pc := 32) hR 2 dX10_tellTwo_32 rfl rfl ?_
  refine z_getr (pc := 33) hR (c0 := 2) (r := (q + 2)) jf_RX10_15 hq (by decide) rfl rfl dX10_tellTwo_33 ?_
  refine z_iconst (pc := 36) hR dX10_tellTwo_36 rfl ?_
  refine z_iload (pc := 37) hR 1 dX10_tellTwo_37 rfl ?_
  refine z_i2l (pc := 39) hR dX10_tellTwo_39 ?_
  refine z_last (pc := 40) hR (n := 12) (kf_10_words hq) (by decide) (by decide) dX10_tellTwo_40 (fun M7 => ?_)
  refine z_aload_n (pc := 41) hR 2 dX10_tellTwo_41 rfl rfl ?_
  refine z_getr (pc := 42) hR (c0 := 2) (r := (q + 2)) jf_RX10_15 hq (by decide) rfl rfl dX10_tellTwo_42 ?_
  refine z_iconst (pc := 45) hR dX10_tellTwo_45 rfl ?_
  refine z_iload (pc := 46) hR 0 dX10_tellTwo_46 rfl ?_
  refine z_i2l (pc := 48) hR dX10_tellTwo_48 ?_
  refine z_last (pc := 49) hR (n := 12) (kf_10_words hq) (by decide) (by decide) dX10_tellTwo_49 (fun M8 => ?_)
  refine z_aload_n (pc := 50) hR 2 dX10_tellTwo_50 rfl rfl ?_
  refine z_getr (pc := 51) hR (c0 := 2) (r := (q + 2)) jf_RX10_15 hq (by decide) rfl rfl dX10_tellTwo_51 ?_
  refine z_iconst (pc := 54) hR dX10_tellTwo_54 rfl ?_
  refine z_aload_n (pc := 55) hR 3 dX10_tellTwo_55 rfl rfl ?_
  refine z_getr (pc := 56) hR (c0 := 2) (r := (a1 + 2)) jf_RX10_81 ha1 (by decide) rfl rfl dX10_tellTwo_56 ?_
  refine z_iload (pc := 59) hR 1 dX10_tellTwo_59 rfl ?_
  refine z_chk (fun hc9 => ?_)
  refine z_iald (pc := 61) hR (n := 7) (kf_7_taste ha1) hc9.1 hc9.2 dX10_tellTwo_61 ?_
  refine z_i2l (pc := 62) hR dX10_tellTwo_62 ?_
  refine z_last (pc := 63) hR (n := 12) (kf_10_words hq) (by decide) (by decide) dX10_tellTwo_63 (fun M10 => ?_)
  refine z_aload_n (pc := 64) hR 2 dX10_tellTwo_64 rfl rfl ?_
  refine z_getr (pc := 65) hR (c0 := 2) (r := (q + 2)) jf_RX10_15 hq (by decide) rfl rfl dX10_tellTwo_65 ?_
  refine z_iconst (pc := 68) hR dX10_tellTwo_68 rfl ?_
  refine z_aload_n (pc := 69) hR 3 dX10_tellTwo_69 rfl rfl ?_
  refine z_getr (pc := 70) hR (c0 := 2) (r := (a1 + 2)) jf_RX10_81 ha1 (by decide) rfl rfl dX10_tellTwo_70 ?_
  refine z_iload (pc := 73) hR 0 dX10_tellTwo_73 rfl ?_
  refine z_chk (fun hc11 => ?_)
  refine z_iald (pc := 75) hR (n := 7) (kf_7_taste ha1) hc11.1 hc11.2 dX10_tellTwo_75 ?_
  refine z_i2l (pc := 76) hR dX10_tellTwo_76 ?_
  refine z_last (pc := 77) hR (n := 12) (kf_10_words hq) (by decide) (by decide) dX10_tellTwo_77 (fun M12 => ?_)
  refine z_aload_n (pc := 78) hR 2 dX10_tellTwo_78 rfl rfl ?_
  refine z_getr (pc := 79) hR (c0 := 2) (r := (q + 2)) jf_RX10_15 hq (by decide) rfl rfl dX10_tellTwo_79 ?_
  refine z_bipush (pc := 82) hR dX10_tellTwo_82 rfl ?_
  refine z_aload_n (pc := 84) hR 3 dX10_tellTwo_84 rfl rfl ?_
  refine z_getr (pc := 85) hR (c0 := 3) (r := (a1 + 3)) jf_RX10_84 ha1 (by decide) rfl rfl dX10_tellTwo_85 ?_
  refine z_iload (pc := 88) hR 1 dX10_tellTwo_88 rfl ?_
  refine z_chk (fun hc13 => ?_)
  refine z_iald (pc := 90) hR (n := 7) (kf_7_water ha1) hc13.1 hc13.2 dX10_tellTwo_90 ?_
  refine z_i2l (pc := 91) hR dX10_tellTwo_91 ?_
  refine z_last (pc := 92) hR (n := 12) (kf_10_words hq) (by decide) (by decide) dX10_tellTwo_92 (fun M14 => ?_)
  refine z_aload_n (pc := 93) hR 2 dX10_tellTwo_93 rfl rfl ?_
  refine z_getr (pc := 94) hR (c0 := 2) (r := (q + 2)) jf_RX10_15 hq (by decide) rfl rfl dX10_tellTwo_94 ?_
  refine z_bipush (pc := 97) hR dX10_tellTwo_97 rfl ?_
  refine z_aload_n (pc := 99) hR 3 dX10_tellTwo_99 rfl rfl ?_
  refine z_getr (pc := 100) hR (c0 := 3) (r := (a1 + 3)) jf_RX10_84 ha1 (by decide) rfl rfl dX10_tellTwo_100 ?_
  refine z_iload (pc := 103) hR 0 dX10_tellTwo_103 rfl ?_
  refine z_chk (fun hc15 => ?_)
  refine z_iald (pc := 105) hR (n := 7) (kf_7_water ha1) hc15.1 hc15.2 dX10_tellTwo_105 ?_
  refine z_i2l (pc := 106) hR dX10_tellTwo_106 ?_
  refine z_last (pc := 107) hR (n := 12) (kf_10_words hq) (by decide) (by decide) dX10_tellTwo_107 (fun M16 => ?_)
  refine z_aload_n (pc := 108) hR 2 dX10_tellTwo_108 rfl rfl ?_
  refine z_getr (pc := 109) hR (c0 := 2) (r := (q + 2)) jf_RX10_15 hq (by decide) rfl rfl dX10_tellTwo_109 ?_
  refine z_bipush (pc := 112) hR dX10_tellTwo_112 rfl ?_
  refine z_aload_n (pc := 114) hR 3 dX10_tellTwo_114 rfl rfl ?_
  refine z_getr (pc := 115) hR (c0 := 5) (r := (a1 + 5)) jf_RX10_87 ha1 (by decide) rfl rfl dX10_tellTwo_115 ?_
  refine z_iload_n (pc := 118) hR 4 dX10_tellTwo_118 rfl rfl ?_
  refine z_chk (fun hc17 => ?_)
  refine z_iald (pc := 119) hR (n := 7) (kf_7_heirs ha1) hc17.1 hc17.2 dX10_tellTwo_119 ?_
  refine z_aload_n (pc := 120) hR 3 dX10_tellTwo_120 rfl rfl ?_
  refine z_getr (pc := 121) hR (c0 := 5) (r := (a1 + 5)) jf_RX10_87 ha1 (by decide) rfl rfl dX10_tellTwo_121 ?_
  refine z_iload_n (pc := 124) hR 5 dX10_tellTwo_124 rfl rfl ?_
  refine z_chk (fun hc18 => ?_)
  refine z_iald (pc := 125) hR (n := 7) (kf_7_heirs ha1) hc18.1 hc18.2 dX10_tellTwo_125 ?_
  refine z_iadd (pc := 126) hR dX10_tellTwo_126 ?_
  refine z_i2l (pc := 127) hR dX10_tellTwo_127 ?_
  refine z_last (pc := 128) hR (n := 12) (kf_10_words hq) (by decide) (by decide) dX10_tellTwo_128 (fun M19 => ?_)
  exact z_return (x := 0) (pc := 129) hR rfl rfl dX10_tellTwo_129 rfl
theorem dX5_combine_0 : decode cX5_combine 0 = .ok (.iload_n 0, 1) := by decide +kernel
theorem dX5_combine_1 : decode cX5_combine 1 = .ok (.tableswitch 195 7 24 #[87, 91, 95, 99, 113, 127, 151, 175, 139, 163, 195, 195, 195, 195, 195, 195, 191, 187], 87) := by decide +kernel
theorem dX5_combine_88 : decode cX5_combine 88 = .ok (.lload_n 1, 1) := by decide +kernel
theorem dX5_combine_89 : decode cX5_combine 89 = .ok (.lload_n 3, 1) := by decide +kernel
theorem dX5_combine_90 : decode cX5_combine 90 = .ok (.ladd, 1) := by decide +kernel
theorem dX5_combine_91 : decode cX5_combine 91 = .ok (.lreturn, 1) := by decide +kernel
theorem dX5_combine_92 : decode cX5_combine 92 = .ok (.lload_n 1, 1) := by decide +kernel
theorem dX5_combine_93 : decode cX5_combine 93 = .ok (.lload_n 3, 1) := by decide +kernel
theorem dX5_combine_94 : decode cX5_combine 94 = .ok (.lsub, 1) := by decide +kernel
theorem dX5_combine_95 : decode cX5_combine 95 = .ok (.lreturn, 1) := by decide +kernel
theorem dX5_combine_96 : decode cX5_combine 96 = .ok (.lload_n 1, 1) := by decide +kernel
theorem dX5_combine_97 : decode cX5_combine 97 = .ok (.lload_n 3, 1) := by decide +kernel
theorem dX5_combine_98 : decode cX5_combine 98 = .ok (.lmul, 1) := by decide +kernel
theorem dX5_combine_99 : decode cX5_combine 99 = .ok (.lreturn, 1) := by decide +kernel
theorem dX5_combine_100 : decode cX5_combine 100 = .ok (.lload_n 3, 1) := by decide +kernel
theorem dX5_combine_101 : decode cX5_combine 101 = .ok (.lconst 0, 1) := by decide +kernel
theorem dX5_combine_102 : decode cX5_combine 102 = .ok (.lcmp, 1) := by decide +kernel
theorem dX5_combine_103 : decode cX5_combine 103 = .ok (.ifCond .ne 7, 3) := by decide +kernel
theorem dX5_combine_106 : decode cX5_combine 106 = .ok (.lconst 0, 1) := by decide +kernel
theorem dX5_combine_107 : decode cX5_combine 107 = .ok (.goto 6, 3) := by decide +kernel
theorem dX5_combine_110 : decode cX5_combine 110 = .ok (.lload_n 1, 1) := by decide +kernel
theorem dX5_combine_111 : decode cX5_combine 111 = .ok (.lload_n 3, 1) := by decide +kernel
theorem dX5_combine_112 : decode cX5_combine 112 = .ok (.ldiv, 1) := by decide +kernel
theorem dX5_combine_113 : decode cX5_combine 113 = .ok (.lreturn, 1) := by decide +kernel
theorem dX5_combine_114 : decode cX5_combine 114 = .ok (.lload_n 3, 1) := by decide +kernel
theorem dX5_combine_115 : decode cX5_combine 115 = .ok (.lconst 0, 1) := by decide +kernel
theorem dX5_combine_116 : decode cX5_combine 116 = .ok (.lcmp, 1) := by decide +kernel
theorem dX5_combine_117 : decode cX5_combine 117 = .ok (.ifCond .ne 7, 3) := by decide +kernel
theorem dX5_combine_120 : decode cX5_combine 120 = .ok (.lconst 0, 1) := by decide +kernel
theorem dX5_combine_121 : decode cX5_combine 121 = .ok (.goto 6, 3) := by decide +kernel
theorem dX5_combine_124 : decode cX5_combine 124 = .ok (.lload_n 1, 1) := by decide +kernel
theorem dX5_combine_125 : decode cX5_combine 125 = .ok (.lload_n 3, 1) := by decide +kernel
theorem dX5_combine_126 : decode cX5_combine 126 = .ok (.lrem, 1) := by decide +kernel
theorem dX5_combine_127 : decode cX5_combine 127 = .ok (.lreturn, 1) := by decide +kernel
theorem dX5_combine_128 : decode cX5_combine 128 = .ok (.lload_n 1, 1) := by decide +kernel
theorem dX5_combine_129 : decode cX5_combine 129 = .ok (.lload_n 3, 1) := by decide +kernel
theorem dX5_combine_130 : decode cX5_combine 130 = .ok (.lcmp, 1) := by decide +kernel
theorem dX5_combine_131 : decode cX5_combine 131 = .ok (.ifCond .ge 7, 3) := by decide +kernel
theorem dX5_combine_134 : decode cX5_combine 134 = .ok (.lconst 1, 1) := by decide +kernel
theorem dX5_combine_135 : decode cX5_combine 135 = .ok (.goto 4, 3) := by decide +kernel
theorem dX5_combine_138 : decode cX5_combine 138 = .ok (.lconst 0, 1) := by decide +kernel
theorem dX5_combine_139 : decode cX5_combine 139 = .ok (.lreturn, 1) := by decide +kernel
theorem dX5_combine_140 : decode cX5_combine 140 = .ok (.lload_n 1, 1) := by decide +kernel
theorem dX5_combine_141 : decode cX5_combine 141 = .ok (.lload_n 3, 1) := by decide +kernel
theorem dX5_combine_142 : decode cX5_combine 142 = .ok (.lcmp, 1) := by decide +kernel
theorem dX5_combine_143 : decode cX5_combine 143 = .ok (.ifCond .gt 7, 3) := by decide +kernel
theorem dX5_combine_146 : decode cX5_combine 146 = .ok (.lconst 1, 1) := by decide +kernel
theorem dX5_combine_147 : decode cX5_combine 147 = .ok (.goto 4, 3) := by decide +kernel
theorem dX5_combine_150 : decode cX5_combine 150 = .ok (.lconst 0, 1) := by decide +kernel
theorem dX5_combine_151 : decode cX5_combine 151 = .ok (.lreturn, 1) := by decide +kernel
theorem dX5_combine_152 : decode cX5_combine 152 = .ok (.lload_n 1, 1) := by decide +kernel
theorem dX5_combine_153 : decode cX5_combine 153 = .ok (.lload_n 3, 1) := by decide +kernel
theorem dX5_combine_154 : decode cX5_combine 154 = .ok (.lcmp, 1) := by decide +kernel
theorem dX5_combine_155 : decode cX5_combine 155 = .ok (.ifCond .ne 7, 3) := by decide +kernel
theorem dX5_combine_158 : decode cX5_combine 158 = .ok (.lconst 1, 1) := by decide +kernel
theorem dX5_combine_159 : decode cX5_combine 159 = .ok (.goto 4, 3) := by decide +kernel
theorem dX5_combine_162 : decode cX5_combine 162 = .ok (.lconst 0, 1) := by decide +kernel
theorem dX5_combine_163 : decode cX5_combine 163 = .ok (.lreturn, 1) := by decide +kernel
theorem dX5_combine_164 : decode cX5_combine 164 = .ok (.lload_n 1, 1) := by decide +kernel
theorem dX5_combine_165 : decode cX5_combine 165 = .ok (.lload_n 3, 1) := by decide +kernel
theorem dX5_combine_166 : decode cX5_combine 166 = .ok (.lcmp, 1) := by decide +kernel
theorem dX5_combine_167 : decode cX5_combine 167 = .ok (.ifCond .lt 7, 3) := by decide +kernel
theorem dX5_combine_170 : decode cX5_combine 170 = .ok (.lconst 1, 1) := by decide +kernel
theorem dX5_combine_171 : decode cX5_combine 171 = .ok (.goto 4, 3) := by decide +kernel
theorem dX5_combine_174 : decode cX5_combine 174 = .ok (.lconst 0, 1) := by decide +kernel
theorem dX5_combine_175 : decode cX5_combine 175 = .ok (.lreturn, 1) := by decide +kernel
theorem dX5_combine_176 : decode cX5_combine 176 = .ok (.lload_n 1, 1) := by decide +kernel
theorem dX5_combine_177 : decode cX5_combine 177 = .ok (.lload_n 3, 1) := by decide +kernel
theorem dX5_combine_178 : decode cX5_combine 178 = .ok (.lcmp, 1) := by decide +kernel
theorem dX5_combine_179 : decode cX5_combine 179 = .ok (.ifCond .le 7, 3) := by decide +kernel
theorem dX5_combine_182 : decode cX5_combine 182 = .ok (.lconst 1, 1) := by decide +kernel
theorem dX5_combine_183 : decode cX5_combine 183 = .ok (.goto 4, 3) := by decide +kernel
theorem dX5_combine_186 : decode cX5_combine 186 = .ok (.lconst 0, 1) := by decide +kernel
theorem dX5_combine_187 : decode cX5_combine 187 = .ok (.lreturn, 1) := by decide +kernel
theorem dX5_combine_188 : decode cX5_combine 188 = .ok (.lload_n 1, 1) := by decide +kernel
theorem dX5_combine_189 : decode cX5_combine 189 = .ok (.lload_n 3, 1) := by decide +kernel
theorem dX5_combine_190 : decode cX5_combine 190 = .ok (.land, 1) := by decide +kernel
theorem dX5_combine_191 : decode cX5_combine 191 = .ok (.lreturn, 1) := by decide +kernel
theorem dX5_combine_192 : decode cX5_combine 192 = .ok (.lload_n 1, 1) := by decide +kernel
theorem dX5_combine_193 : decode cX5_combine 193 = .ok (.lload_n 3, 1) := by decide +kernel
theorem dX5_combine_194 : decode cX5_combine 194 = .ok (.lor, 1) := by decide +kernel
theorem dX5_combine_195 : decode cX5_combine 195 = .ok (.lreturn, 1) := by decide +kernel
theorem dX5_combine_196 : decode cX5_combine 196 = .ok (.lconst 0, 1) := by decide +kernel
theorem dX5_combine_197 : decode cX5_combine 197 = .ok (.lreturn, 1) := by decide +kernel
def Ru_combine (N : Nat) (a0 a1 a3 : Int) (M : jMem) : Option Int := (if a0 = 7 then some ((w64 (a1 + a3))) else (if a0 = 8 then some ((w64 (a1 - a3))) else (if a0 = 9 then some ((w64 (a1 * a3))) else (if a0 = 10 then (if (jcmp a3 0) = 0 then some 0 else jchk (a3 ≠ 0) <| some ((w64 (a1.tdiv a3)))) else (if a0 = 11 then (if (jcmp a3 0) = 0 then some 0 else jchk (a3 ≠ 0) <| some ((a1.tmod a3))) else (if a0 = 12 then (if (jcmp a1 a3) < 0 then some 1 else some 0) else (if a0 = 13 then (if (jcmp a1 a3) = 0 then some 1 else some 0) else (if a0 = 14 then (if 0 < (jcmp a1 a3) then some 1 else some 0) else (if a0 = 15 then (if 0 < (jcmp a1 a3) then some 0 else some 1) else (if a0 = 16 then (if (jcmp a1 a3) < 0 then some 0 else some 1) else (if a0 = 17 then some 0 else (if a0 = 18 then some 0 else (if a0 = 19 then some 0 else (if a0 = 20 then some 0 else (if a0 = 21 then some 0 else (if a0 = 22 then some 0 else (if a0 = 23 then some ((jlor a1 a3)) else (if a0 = 24 then some ((jlan a1 a3)) else some 0))))))))))))))))))
theorem c_Ru_combine {l : Launch} {g : jG} (N : Nat) (a0 a1 a3 : Int) (M : jMem)  : ∀ o, Ru_combine N a0 a1 a3 M = some o → jCt l g jTX yX5_combine cX5_combine 5 (some .long) 1 1 [(0, a0), (1, a1), (1, a3)] M (o, M) := by
  refine jMet (own := RX5) (em := (fun r => (r, M))) (L := [(0, 0, a0), (1, 1, a1), (3, 1, a3)]) (by decide +kernel) rfl (Nat.le_of_ble_eq_true rfl) rfl (fun K hR => ?_)
  unfold Ru_combine
  refine z_iload_n (pc := 0) hR 0 dX5_combine_0 rfl rfl ?_
  refine z_tsw (pc := 1) (tgt := 88) (j := 0) (y := 7) hR dX5_combine_1 rfl rfl (by decide) (by decide) ?_ (fun hs1 => ?_)
  · refine z_lload_n (pc := 88) hR 1 dX5_combine_88 rfl rfl ?_
    refine z_lload_n (pc := 89) hR 2 dX5_combine_89 rfl rfl ?_
    refine z_ladd (pc := 90) hR dX5_combine_90 ?_
    exact z_lreturn (pc := 91) hR rfl rfl dX5_combine_91 rfl
  refine z_tsw (pc := 1) (tgt := 92) (j := 1) (y := 8) hR dX5_combine_1 rfl rfl (by decide) (by decide) ?_ (fun hs2 => ?_)
  · refine z_lload_n (pc := 92) hR 1 dX5_combine_92 rfl rfl ?_
    refine z_lload_n (pc := 93) hR 2 dX5_combine_93 rfl rfl ?_
    refine z_lsub (pc := 94) hR dX5_combine_94 ?_
    exact z_lreturn (pc := 95) hR rfl rfl dX5_combine_95 rfl
  refine z_tsw (pc := 1) (tgt := 96) (j := 2) (y := 9) hR dX5_combine_1 rfl rfl (by decide) (by decide) ?_ (fun hs3 => ?_)
  · refine z_lload_n (pc := 96) hR 1 dX5_combine_96 rfl rfl ?_
    refine z_lload_n (pc := 97) hR 2 dX5_combine_97 rfl rfl ?_
    refine z_lmul (pc := 98) hR dX5_combine_98 ?_
    exact z_lreturn (pc := 99) hR rfl rfl dX5_combine_99 rfl
  refine z_tsw (pc := 1) (tgt := 100) (j := 3) (y := 10) hR dX5_combine_1 rfl rfl (by decide) (by decide) ?_ (fun hs4 => ?_)
  · refine z_lload_n (pc := 100) hR 2 dX5_combine_100 rfl rfl ?_
    refine z_lconst (pc := 101) hR (x := 0) dX5_combine_101 rfl ?_
    refine z_lcmp (pc := 102) hR dX5_combine_102 ?_
    refine z_ifne (pc := 103) (tgt := 110) hR dX5_combine_103 (by decide) ?_ ?_
    · refine z_lload_n (pc := 110) hR 1 dX5_combine_110 rfl rfl ?_
      refine z_lload_n (pc := 111) hR 2 dX5_combine_111 rfl rfl ?_
      refine z_chk (fun hc5 => ?_)
      refine z_ldiv (pc := 112) hR dX5_combine_112 hc5 ?_
      exact z_lreturn (pc := 113) hR rfl rfl dX5_combine_113 rfl
    · refine z_lconst (pc := 106) hR (x := 0) dX5_combine_106 rfl ?_
      refine z_goto (pc := 107) (tgt := 113) hR dX5_combine_107 (by decide) ?_
      exact z_lreturn (pc := 113) hR rfl rfl dX5_combine_113 rfl
  refine z_tsw (pc := 1) (tgt := 114) (j := 4) (y := 11) hR dX5_combine_1 rfl rfl (by decide) (by decide) ?_ (fun hs6 => ?_)
  · refine z_lload_n (pc := 114) hR 2 dX5_combine_114 rfl rfl ?_
    refine z_lconst (pc := 115) hR (x := 0) dX5_combine_115 rfl ?_
    refine z_lcmp (pc := 116) hR dX5_combine_116 ?_
    refine z_ifne (pc := 117) (tgt := 124) hR dX5_combine_117 (by decide) ?_ ?_
    · refine z_lload_n (pc := 124) hR 1 dX5_combine_124 rfl rfl ?_
      refine z_lload_n (pc := 125) hR 2 dX5_combine_125 rfl rfl ?_
      refine z_chk (fun hc7 => ?_)
      refine z_lrem (pc := 126) hR dX5_combine_126 hc7 ?_
      exact z_lreturn (pc := 127) hR rfl rfl dX5_combine_127 rfl
    · refine z_lconst (pc := 120) hR (x := 0) dX5_combine_120 rfl ?_
      refine z_goto (pc := 121) (tgt := 127) hR dX5_combine_121 (by decide) ?_
      exact z_lreturn (pc := 127) hR rfl rfl dX5_combine_127 rfl
  refine z_tsw (pc := 1) (tgt := 128) (j := 5) (y := 12) hR dX5_combine_1 rfl rfl (by decide) (by decide) ?_ (fun hs8 => ?_)
  · refine z_lload_n (pc := 128) hR 1 dX5_combine_128 rfl rfl ?_
    refine z_lload_n (pc := 129) hR 2 dX5_combine_129 rfl rfl ?_
    refine z_lcmp (pc := 130) hR dX5_combine_130 ?_
    refine z_ifge (pc := 131) (tgt := 138) hR dX5_combine_131 (by decide) ?_ ?_
    · refine z_lconst (pc := 138) hR (x := 0) dX5_combine_138 rfl ?_
      exact z_lreturn (pc := 139) hR rfl rfl dX5_combine_139 rfl
    · refine z_lconst (pc := 134) hR (x := 1) dX5_combine_134 rfl ?_
      refine z_goto (pc := 135) (tgt := 139) hR dX5_combine_135 (by decide) ?_
      exact z_lreturn (pc := 139) hR rfl rfl dX5_combine_139 rfl
  refine z_tsw (pc := 1) (tgt := 152) (j := 6) (y := 13) hR dX5_combine_1 rfl rfl (by decide) (by decide) ?_ (fun hs9 => ?_)
  · refine z_lload_n (pc := 152) hR 1 dX5_combine_152 rfl rfl ?_
    refine z_lload_n (pc := 153) hR 2 dX5_combine_153 rfl rfl ?_
    refine z_lcmp (pc := 154) hR dX5_combine_154 ?_
    refine z_ifne (pc := 155) (tgt := 162) hR dX5_combine_155 (by decide) ?_ ?_
    · refine z_lconst (pc := 162) hR (x := 0) dX5_combine_162 rfl ?_
      exact z_lreturn (pc := 163) hR rfl rfl dX5_combine_163 rfl
    · refine z_lconst (pc := 158) hR (x := 1) dX5_combine_158 rfl ?_
      refine z_goto (pc := 159) (tgt := 163) hR dX5_combine_159 (by decide) ?_
      exact z_lreturn (pc := 163) hR rfl rfl dX5_combine_163 rfl
  refine z_tsw (pc := 1) (tgt := 176) (j := 7) (y := 14) hR dX5_combine_1 rfl rfl (by decide) (by decide) ?_ (fun hs10 => ?_)
  · refine z_lload_n (pc := 176) hR 1 dX5_combine_176 rfl rfl ?_
    refine z_lload_n (pc := 177) hR 2 dX5_combine_177 rfl rfl ?_
    refine z_lcmp (pc := 178) hR dX5_combine_178 ?_
    refine z_ifle (pc := 179) (tgt := 186) hR dX5_combine_179 (by decide) ?_ ?_
    · refine z_lconst (pc := 186) hR (x := 0) dX5_combine_186 rfl ?_
      exact z_lreturn (pc := 187) hR rfl rfl dX5_combine_187 rfl
    · refine z_lconst (pc := 182) hR (x := 1) dX5_combine_182 rfl ?_
      refine z_goto (pc := 183) (tgt := 187) hR dX5_combine_183 (by decide) ?_
      exact z_lreturn (pc := 187) hR rfl rfl dX5_combine_187 rfl
  refine z_tsw (pc := 1) (tgt := 140) (j := 8) (y := 15) hR dX5_combine_1 rfl rfl (by decide) (by decide) ?_ (fun hs11 => ?_)
  · refine z_lload_n (pc := 140) hR 1 dX5_combine_140 rfl rfl ?_
    refine z_lload_n (pc := 141) hR 2 dX5_combine_141 rfl rfl ?_
    refine z_lcmp (pc := 142) hR dX5_combine_142 ?_
    refine z_ifgt (pc := 143) (tgt := 150) hR dX5_combine_143 (by decide) ?_ ?_
    · refine z_lconst (pc := 150) hR (x := 0) dX5_combine_150 rfl ?_
      exact z_lreturn (pc := 151) hR rfl rfl dX5_combine_151 rfl
    · refine z_lconst (pc := 146) hR (x := 1) dX5_combine_146 rfl ?_
      refine z_goto (pc := 147) (tgt := 151) hR dX5_combine_147 (by decide) ?_
      exact z_lreturn (pc := 151) hR rfl rfl dX5_combine_151 rfl
  refine z_tsw (pc := 1) (tgt := 164) (j := 9) (y := 16) hR dX5_combine_1 rfl rfl (by decide) (by decide) ?_ (fun hs12 => ?_)
  · refine z_lload_n (pc := 164) hR 1 dX5_combine_164 rfl rfl ?_
    refine z_lload_n (pc := 165) hR 2 dX5_combine_165 rfl rfl ?_
    refine z_lcmp (pc := 166) hR dX5_combine_166 ?_
    refine z_iflt (pc := 167) (tgt := 174) hR dX5_combine_167 (by decide) ?_ ?_
    · refine z_lconst (pc := 174) hR (x := 0) dX5_combine_174 rfl ?_
      exact z_lreturn (pc := 175) hR rfl rfl dX5_combine_175 rfl
    · refine z_lconst (pc := 170) hR (x := 1) dX5_combine_170 rfl ?_
      refine z_goto (pc := 171) (tgt := 175) hR dX5_combine_171 (by decide) ?_
      exact z_lreturn (pc := 175) hR rfl rfl dX5_combine_175 rfl
  refine z_tsw (pc := 1) (tgt := 196) (j := 10) (y := 17) hR dX5_combine_1 rfl rfl (by decide) (by decide) ?_ (fun hs13 => ?_)
  · refine z_lconst (pc := 196) hR (x := 0) dX5_combine_196 rfl ?_
    exact z_lreturn (pc := 197) hR rfl rfl dX5_combine_197 rfl
  refine z_tsw (pc := 1) (tgt := 196) (j := 11) (y := 18) hR dX5_combine_1 rfl rfl (by decide) (by decide) ?_ (fun hs14 => ?_)
  · refine z_lconst (pc := 196) hR (x := 0) dX5_combine_196 rfl ?_
    exact z_lreturn (pc := 197) hR rfl rfl dX5_combine_197 rfl
  refine z_tsw (pc := 1) (tgt := 196) (j := 12) (y := 19) hR dX5_combine_1 rfl rfl (by decide) (by decide) ?_ (fun hs15 => ?_)
  · refine z_lconst (pc := 196) hR (x := 0) dX5_combine_196 rfl ?_
    exact z_lreturn (pc := 197) hR rfl rfl dX5_combine_197 rfl
  refine z_tsw (pc := 1) (tgt := 196) (j := 13) (y := 20) hR dX5_combine_1 rfl rfl (by decide) (by decide) ?_ (fun hs16 => ?_)
  · refine z_lconst (pc := 196) hR (x := 0) dX5_combine_196 rfl ?_
    exact z_lreturn (pc := 197) hR rfl rfl dX5_combine_197 rfl
  refine z_tsw (pc := 1) (tgt := 196) (j := 14) (y := 21) hR dX5_combine_1 rfl rfl (by decide) (by decide) ?_ (fun hs17 => ?_)
  · refine z_lconst (pc := 196) hR (x := 0) dX5_combine_196 rfl ?_
    exact z_lreturn (pc := 197) hR rfl rfl dX5_combine_197 rfl
  refine z_tsw (pc := 1) (tgt := 196) (j := 15) (y := 22) hR dX5_combine_1 rfl rfl (by decide) (by decide) ?_ (fun hs18 => ?_)
  · refine z_lconst (pc := 196) hR (x := 0) dX5_combine_196 rfl ?_
    exact z_lreturn (pc := 197) hR rfl rfl dX5_combine_197 rfl
  refine z_tsw (pc := 1) (tgt := 192) (j := 16) (y := 23) hR dX5_combine_1 rfl rfl (by decide) (by decide) ?_ (fun hs19 => ?_)
  · refine z_lload_n (pc := 192) hR 1 dX5_combine_192 rfl rfl ?_
    refine z_lload_n (pc := 193) hR 2 dX5_combine_193 rfl rfl ?_
    refine z_lor (pc := 194) hR dX5_combine_194 ?_
    exact z_lreturn (pc := 195) hR rfl rfl dX5_combine_195 rfl
  refine z_tsw (pc := 1) (tgt := 188) (j := 17) (y := 24) hR dX5_combine_1 rfl rfl (by decide) (by decide) ?_ (fun hs20 => ?_)
  · refine z_lload_n (pc := 188) hR 1 dX5_combine_188 rfl rfl ?_
    refine z_lload_n (pc := 189) hR 2 dX5_combine_189 rfl rfl ?_
    refine z_land (pc := 190) hR dX5_combine_190 ?_
    exact z_lreturn (pc := 191) hR rfl rfl dX5_combine_191 rfl
  refine z_tswd (pc := 1) (tgt := 196) hR dX5_combine_1 (by omega) (by decide) ?_
  refine z_lconst (pc := 196) hR (x := 0) dX5_combine_196 rfl ?_
  exact z_lreturn (pc := 197) hR rfl rfl dX5_combine_197 rfl
theorem dX5_run_0 : decode cX5_run 0 = .ok (.iconst 0, 1) := by decide +kernel
theorem dX5_run_1 : decode cX5_run 1 = .ok (.istore 4, 2) := by decide +kernel
theorem dX5_run_3 : decode cX5_run 3 = .ok (.iload_n 1, 1) := by decide +kernel
theorem dX5_run_4 : decode cX5_run 4 = .ok (.istore 5, 2) := by decide +kernel
theorem dX5_run_6 : decode cX5_run 6 = .ok (.iload 5, 2) := by decide +kernel
theorem dX5_run_8 : decode cX5_run 8 = .ok (.iload_n 2, 1) := by decide +kernel
theorem dX5_run_9 : decode cX5_run 9 = .ok (.if_icmp .ge 159, 3) := by decide +kernel
theorem dX5_run_12 : decode cX5_run 12 = .ok (.aload_n 0, 1) := by decide +kernel
theorem dX5_run_13 : decode cX5_run 13 = .ok (.getfield 9, 3) := by decide +kernel
theorem dX5_run_16 : decode cX5_run 16 = .ok (.iload 5, 2) := by decide +kernel
theorem dX5_run_18 : decode cX5_run 18 = .ok (.iaload, 1) := by decide +kernel
theorem dX5_run_19 : decode cX5_run 19 = .ok (.ineg, 1) := by decide +kernel
theorem dX5_run_20 : decode cX5_run 20 = .ok (.istore 6, 2) := by decide +kernel
theorem dX5_run_22 : decode cX5_run 22 = .ok (.iload 6, 2) := by decide +kernel
theorem dX5_run_24 : decode cX5_run 24 = .ok (.bipush 25, 2) := by decide +kernel
theorem dX5_run_26 : decode cX5_run 26 = .ok (.if_icmp .gt 8, 3) := by decide +kernel
theorem dX5_run_29 : decode cX5_run 29 = .ok (.iload 6, 2) := by decide +kernel
theorem dX5_run_31 : decode cX5_run 31 = .ok (.ifCond .gt 44, 3) := by decide +kernel
theorem dX5_run_34 : decode cX5_run 34 = .ok (.iload 4, 2) := by decide +kernel
theorem dX5_run_36 : decode cX5_run 36 = .ok (.bipush 40, 2) := by decide +kernel
theorem dX5_run_38 : decode cX5_run 38 = .ok (.if_icmp .lt 5, 3) := by decide +kernel
theorem dX5_run_41 : decode cX5_run 41 = .ok (.lconst 0, 1) := by decide +kernel
theorem dX5_run_42 : decode cX5_run 42 = .ok (.lreturn, 1) := by decide +kernel
theorem dX5_run_43 : decode cX5_run 43 = .ok (.aload_n 0, 1) := by decide +kernel
theorem dX5_run_44 : decode cX5_run 44 = .ok (.getfield 24, 3) := by decide +kernel
theorem dX5_run_47 : decode cX5_run 47 = .ok (.iload 4, 2) := by decide +kernel
theorem dX5_run_49 : decode cX5_run 49 = .ok (.iload 6, 2) := by decide +kernel
theorem dX5_run_51 : decode cX5_run 51 = .ok (.ifCond .gt 10, 3) := by decide +kernel
theorem dX5_run_54 : decode cX5_run 54 = .ok (.iload 6, 2) := by decide +kernel
theorem dX5_run_56 : decode cX5_run 56 = .ok (.ineg, 1) := by decide +kernel
theorem dX5_run_57 : decode cX5_run 57 = .ok (.i2l, 1) := by decide +kernel
theorem dX5_run_58 : decode cX5_run 58 = .ok (.goto 10, 3) := by decide +kernel
theorem dX5_run_61 : decode cX5_run 61 = .ok (.aload_n 3, 1) := by decide +kernel
theorem dX5_run_62 : decode cX5_run 62 = .ok (.iload 6, 2) := by decide +kernel
theorem dX5_run_64 : decode cX5_run 64 = .ok (.bipush 26, 2) := by decide +kernel
theorem dX5_run_66 : decode cX5_run 66 = .ok (.isub, 1) := by decide +kernel
theorem dX5_run_67 : decode cX5_run 67 = .ok (.laload, 1) := by decide +kernel
theorem dX5_run_68 : decode cX5_run 68 = .ok (.lastore, 1) := by decide +kernel
theorem dX5_run_69 : decode cX5_run 69 = .ok (.iinc 4 1, 3) := by decide +kernel
theorem dX5_run_72 : decode cX5_run 72 = .ok (.goto 90, 3) := by decide +kernel
theorem dX5_run_75 : decode cX5_run 75 = .ok (.iload 6, 2) := by decide +kernel
theorem dX5_run_77 : decode cX5_run 77 = .ok (.bipush 25, 2) := by decide +kernel
theorem dX5_run_79 : decode cX5_run 79 = .ok (.if_icmp .ne 42, 3) := by decide +kernel
theorem dX5_run_82 : decode cX5_run 82 = .ok (.iload 4, 2) := by decide +kernel
theorem dX5_run_84 : decode cX5_run 84 = .ok (.iconst 1, 1) := by decide +kernel
theorem dX5_run_85 : decode cX5_run 85 = .ok (.if_icmp .ge 5, 3) := by decide +kernel
theorem dX5_run_88 : decode cX5_run 88 = .ok (.lconst 0, 1) := by decide +kernel
theorem dX5_run_89 : decode cX5_run 89 = .ok (.lreturn, 1) := by decide +kernel
theorem dX5_run_90 : decode cX5_run 90 = .ok (.aload_n 0, 1) := by decide +kernel
theorem dX5_run_91 : decode cX5_run 91 = .ok (.getfield 24, 3) := by decide +kernel
theorem dX5_run_94 : decode cX5_run 94 = .ok (.iload 4, 2) := by decide +kernel
theorem dX5_run_96 : decode cX5_run 96 = .ok (.iconst 1, 1) := by decide +kernel
theorem dX5_run_97 : decode cX5_run 97 = .ok (.isub, 1) := by decide +kernel
theorem dX5_run_98 : decode cX5_run 98 = .ok (.aload_n 0, 1) := by decide +kernel
theorem dX5_run_99 : decode cX5_run 99 = .ok (.getfield 24, 3) := by decide +kernel
theorem dX5_run_102 : decode cX5_run 102 = .ok (.iload 4, 2) := by decide +kernel
theorem dX5_run_104 : decode cX5_run 104 = .ok (.iconst 1, 1) := by decide +kernel
theorem dX5_run_105 : decode cX5_run 105 = .ok (.isub, 1) := by decide +kernel
theorem dX5_run_106 : decode cX5_run 106 = .ok (.laload, 1) := by decide +kernel
theorem dX5_run_107 : decode cX5_run 107 = .ok (.lconst 0, 1) := by decide +kernel
theorem dX5_run_108 : decode cX5_run 108 = .ok (.lcmp, 1) := by decide +kernel
theorem dX5_run_109 : decode cX5_run 109 = .ok (.ifCond .ne 7, 3) := by decide +kernel
theorem dX5_run_112 : decode cX5_run 112 = .ok (.lconst 1, 1) := by decide +kernel
theorem dX5_run_113 : decode cX5_run 113 = .ok (.goto 4, 3) := by decide +kernel
theorem dX5_run_116 : decode cX5_run 116 = .ok (.lconst 0, 1) := by decide +kernel
theorem dX5_run_117 : decode cX5_run 117 = .ok (.lastore, 1) := by decide +kernel
theorem dX5_run_118 : decode cX5_run 118 = .ok (.goto 44, 3) := by decide +kernel
theorem dX5_run_121 : decode cX5_run 121 = .ok (.iload 4, 2) := by decide +kernel
theorem dX5_run_123 : decode cX5_run 123 = .ok (.iconst 2, 1) := by decide +kernel
theorem dX5_run_124 : decode cX5_run 124 = .ok (.if_icmp .ge 5, 3) := by decide +kernel
theorem dX5_run_127 : decode cX5_run 127 = .ok (.lconst 0, 1) := by decide +kernel
theorem dX5_run_128 : decode cX5_run 128 = .ok (.lreturn, 1) := by decide +kernel
theorem dX5_run_129 : decode cX5_run 129 = .ok (.iinc 4 (-1), 3) := by decide +kernel
theorem dX5_run_132 : decode cX5_run 132 = .ok (.aload_n 0, 1) := by decide +kernel
theorem dX5_run_133 : decode cX5_run 133 = .ok (.getfield 24, 3) := by decide +kernel
theorem dX5_run_136 : decode cX5_run 136 = .ok (.iload 4, 2) := by decide +kernel
theorem dX5_run_138 : decode cX5_run 138 = .ok (.iconst 1, 1) := by decide +kernel
theorem dX5_run_139 : decode cX5_run 139 = .ok (.isub, 1) := by decide +kernel
theorem dX5_run_140 : decode cX5_run 140 = .ok (.iload 6, 2) := by decide +kernel
theorem dX5_run_142 : decode cX5_run 142 = .ok (.aload_n 0, 1) := by decide +kernel
theorem dX5_run_143 : decode cX5_run 143 = .ok (.getfield 24, 3) := by decide +kernel
theorem dX5_run_146 : decode cX5_run 146 = .ok (.iload 4, 2) := by decide +kernel
theorem dX5_run_148 : decode cX5_run 148 = .ok (.iconst 1, 1) := by decide +kernel
theorem dX5_run_149 : decode cX5_run 149 = .ok (.isub, 1) := by decide +kernel
theorem dX5_run_150 : decode cX5_run 150 = .ok (.laload, 1) := by decide +kernel
theorem dX5_run_151 : decode cX5_run 151 = .ok (.aload_n 0, 1) := by decide +kernel
theorem dX5_run_152 : decode cX5_run 152 = .ok (.getfield 24, 3) := by decide +kernel
theorem dX5_run_155 : decode cX5_run 155 = .ok (.iload 4, 2) := by decide +kernel
theorem dX5_run_157 : decode cX5_run 157 = .ok (.laload, 1) := by decide +kernel
theorem dX5_run_158 : decode cX5_run 158 = .ok (.invokestatic 43, 3) := by decide +kernel
theorem dX5_run_161 : decode cX5_run 161 = .ok (.lastore, 1) := by decide +kernel
theorem dX5_run_162 : decode cX5_run 162 = .ok (.iinc 5 1, 3) := by decide +kernel
theorem dX5_run_165 : decode cX5_run 165 = .ok (.goto (-159), 3) := by decide +kernel
theorem dX5_run_168 : decode cX5_run 168 = .ok (.iload 4, 2) := by decide +kernel
theorem dX5_run_170 : decode cX5_run 170 = .ok (.iconst 1, 1) := by decide +kernel
theorem dX5_run_171 : decode cX5_run 171 = .ok (.if_icmp .ne 12, 3) := by decide +kernel
theorem dX5_run_174 : decode cX5_run 174 = .ok (.aload_n 0, 1) := by decide +kernel
theorem dX5_run_175 : decode cX5_run 175 = .ok (.getfield 24, 3) := by decide +kernel
theorem dX5_run_178 : decode cX5_run 178 = .ok (.iconst 0, 1) := by decide +kernel
theorem dX5_run_179 : decode cX5_run 179 = .ok (.laload, 1) := by decide +kernel
theorem dX5_run_180 : decode cX5_run 180 = .ok (.goto 4, 3) := by decide +kernel
theorem dX5_run_183 : decode cX5_run 183 = .ok (.lconst 0, 1) := by decide +kernel
theorem dX5_run_184 : decode cX5_run 184 = .ok (.lreturn, 1) := by decide +kernel
def Ru_run_L6 (N : Nat) (q : Int) (a2 : Int) (a3 : Int) (h6 : (Int × Int × jMem) → Option (Int × jMem)) : Int × Int × jMem → Option (Int × jMem)
  | (x1, x2, M3) => (if x2 < a2 then jchk (0 ≤ x2 ∧ x2 < 400) <| jlt ((w32 (-((M3 ((q + 1)) x2))))) fun v5 => jlt (fun (_ : Unit) => (if x1 < 40 then jlt (fun (u6 : Int) => jchk (0 ≤ x1 ∧ x1 < 40) <| jlt (up M3 ((q + 5)) x1 u6) fun M8 => h6 ((w32 (x1 + 1)), (w32 (x2 + 1)), M8)) fun j68 => (if 0 < v5 then jchk (0 ≤ (w32 (v5 - 26)) ∧ (w32 (v5 - 26)) < 12) <| j68 ((M3 a3 ((w32 (v5 - 26))))) else j68 ((w32 (-v5)))) else some (0, M3))) fun j34 => (if 25 < v5 then j34 () else (if 0 < v5 then (if v5 = 25 then (if x1 < 1 then some (0, M3) else jchk (0 ≤ (w32 (x1 - 1)) ∧ (w32 (x1 - 1)) < 40) <| jlt (fun (u16 : Int) => jchk (0 ≤ (w32 (x1 - 1)) ∧ (w32 (x1 - 1)) < 40) <| jlt (up M3 ((q + 5)) ((w32 (x1 - 1))) u16) fun M18 => h6 (x1, (w32 (x2 + 1)), M18)) fun j117 => (if (jcmp ((M3 ((q + 5)) ((w32 (x1 - 1))))) 0) = 0 then j117 1 else j117 0)) else (if x1 < 2 then some (0, M3) else jchk (0 ≤ (w32 (((w32 (x1 + (-1)))) - 1)) ∧ (w32 (((w32 (x1 + (-1)))) - 1)) < 40) <| jchk (0 ≤ (w32 (x1 + (-1))) ∧ (w32 (x1 + (-1))) < 40) <| (Ru_combine N v5 ((M3 ((q + 5)) ((w32 (((w32 (x1 + (-1)))) - 1))))) ((M3 ((q + 5)) ((w32 (x1 + (-1)))))) M3).bind fun r12 => jchk (0 ≤ (w32 (((w32 (x1 + (-1)))) - 1)) ∧ (w32 (((w32 (x1 + (-1)))) - 1)) < 40) <| jlt (up M3 ((q + 5)) ((w32 (((w32 (x1 + (-1)))) - 1))) r12) fun M14 => h6 ((w32 (x1 + (-1))), (w32 (x2 + 1)), M14))) else j34 ())) else (if x1 = 1 then some ((M3 ((q + 5)) 0), M3) else some (0, M3)))
def Ru_run (N : Nat) (q a1 a2 a3 : Int) (M : jMem) : Option (Int × jMem) := jfix N (Ru_run_L6 N q a2 a3) (0, a1, M)
theorem c_Ru_run {l : Launch} {g : jG} (N : Nat) (q a1 a2 a3 : Int) (M : jMem) (hq : jk jTX q 5) (ha3 : ja jTX a3 4 12) : ∀ o, Ru_run N q a1 a2 a3 M = some o → jCt l g jTX yX5_run cX5_run 7 (some .long) 1 3 [(2, q), (0, a1), (0, a2), (2, a3)] M o := by
  refine jMet (own := RX5) (em := id) (L := [(0, 2, q), (1, 0, a1), (2, 0, a2), (3, 2, a3)]) (by decide +kernel) rfl (Nat.le_of_ble_eq_true rfl) rfl (fun K hR => ?_)
  unfold Ru_run
  refine z_iconst (pc := 0) hR dX5_run_0 rfl ?_
  refine z_istore (pc := 1) hR (lv' := [(4, 0, 0), (0, 2, q), (1, 0, a1), (2, 0, a2), (3, 2, a3)]) dX5_run_1 (by decide) rfl ?_
  refine z_iload_n (pc := 3) hR 2 dX5_run_3 rfl rfl ?_
  refine z_istore (pc := 4) hR (lv' := [(5, 0, a1), (4, 0, 0), (0, 2, q), (1, 0, a1), (2, 0, a2), (3, 2, a3)]) dX5_run_4 (by decide) rfl ?_
  refine z_pick (pc := 6) (lv' := [(0, 2, q), (2, 0, a2), (3, 2, a3), (4, 0, 0), (5, 0, a1)]) hR [2, 4, 5, 1, 0] rfl ?_
  refine z_fix (σ := Int × Int × jMem) (lv := fun s => [(0, 2, q), (2, 0, a2), (3, 2, a3), (4, 0, s.1), (5, 0, s.2.1)]) (st := fun _ => []) (M := fun s => s.2.2) (fun h6 hh6 => ?_) N (0, a1, M)
  rintro ⟨x1, x2, M3⟩
  show jZ K id 6 [(0, 2, q), (2, 0, a2), (3, 2, a3), (4, 0, x1), (5, 0, x2)] [] M3 _
  unfold Ru_run_L6
  refine z_iload (pc := 6) hR 4 dX5_run_6 rfl ?_
  refine z_iload_n (pc := 8) hR 1 dX5_run_8 rfl rfl ?_
  refine z_icmpge (pc := 9) (tgt := 168) hR dX5_run_9 (by decide) ?_ ?_
  · refine z_iload (pc := 168) hR 3 dX5_run_168 rfl ?_
    refine z_iconst (pc := 170) hR dX5_run_170 rfl ?_
    refine z_icmpne (pc := 171) (tgt := 183) hR dX5_run_171 (by decide) ?_ ?_
    · refine z_lconst (pc := 183) hR (x := 0) dX5_run_183 rfl ?_
      exact z_lreturn (pc := 184) hR rfl rfl dX5_run_184 rfl
    · refine z_aload_n (pc := 174) hR 0 dX5_run_174 rfl rfl ?_
      refine z_getr (pc := 175) hR (c0 := 5) (r := (q + 5)) jf_RX5_24 hq (by decide) rfl rfl dX5_run_175 ?_
      refine z_iconst (pc := 178) hR dX5_run_178 rfl ?_
      refine z_lald (pc := 179) hR (n := 40) (kf_5_stack hq) (by decide) (by decide) dX5_run_179 ?_
      refine z_goto (pc := 180) (tgt := 184) hR dX5_run_180 (by decide) ?_
      exact z_lreturn (pc := 184) hR rfl rfl dX5_run_184 rfl
  · refine z_aload_n (pc := 12) hR 0 dX5_run_12 rfl rfl ?_
    refine z_getr (pc := 13) hR (c0 := 1) (r := (q + 1)) jf_RX5_9 hq (by decide) rfl rfl dX5_run_13 ?_
    refine z_iload (pc := 16) hR 4 dX5_run_16 rfl ?_
    refine z_chk (fun hc4 => ?_)
    refine z_iald (pc := 18) hR (n := 400) (kf_5_code hq) hc4.1 hc4.2 dX5_run_18 ?_
    refine z_ineg (pc := 19) hR dX5_run_19 ?_
    refine z_let1 (fun v5 => ?_)
    refine z_istore (pc := 20) hR (lv' := [(6, 0, v5), (0, 2, q), (2, 0, a2), (3, 2, a3), (4, 0, x1), (5, 0, x2)]) dX5_run_20 (by decide) rfl ?_
    refine z_iload (pc := 22) hR 0 dX5_run_22 rfl ?_
    refine z_bipush (pc := 24) hR dX5_run_24 rfl ?_
    refine z_join (P := fun j => ∀ (_ : Unit), jZ K id 34 [(0, 2, q), (2, 0, a2), (3, 2, a3), (4, 0, x1), (5, 0, x2), (6, 0, v5)] [] M3 (j ())) (fun _ => ?_) (fun j34 hj34 => ?_)
    · refine z_iload (pc := 34) hR 3 dX5_run_34 rfl ?_
      refine z_bipush (pc := 36) hR dX5_run_36 rfl ?_
      refine z_icmplt (pc := 38) (tgt := 43) hR dX5_run_38 (by decide) ?_ ?_
      · refine z_aload_n (pc := 43) hR 0 dX5_run_43 rfl rfl ?_
        refine z_getr (pc := 44) hR (c0 := 5) (r := (q + 5)) jf_RX5_24 hq (by decide) rfl rfl dX5_run_44 ?_
        refine z_iload (pc := 47) hR 3 dX5_run_47 rfl ?_
        refine z_iload (pc := 49) hR 5 dX5_run_49 rfl ?_
        refine z_join (P := fun j => ∀ (u6 : Int), jZ K id 68 [(0, 2, q), (2, 0, a2), (3, 2, a3), (4, 0, x1), (5, 0, x2)] [(1, u6), (0, x1), (2, (q + 5))] M3 (j u6)) (fun u6 => ?_) (fun j68 hj68 => ?_)
        · refine z_chk (fun hc7 => ?_)
          refine z_last (pc := 68) hR (n := 40) (kf_5_stack hq) hc7.1 hc7.2 dX5_run_68 (fun M8 => ?_)
          refine z_iinc (pc := 69) hR (j := 3) (lv' := [(4, 0, (w32 (x1 + 1))), (0, 2, q), (2, 0, a2), (3, 2, a3), (5, 0, x2)]) dX5_run_69 rfl (by decide) rfl ?_
          refine z_goto (pc := 72) (tgt := 162) hR dX5_run_72 (by decide) ?_
          refine z_iinc (pc := 162) hR (j := 4) (lv' := [(5, 0, (w32 (x2 + 1))), (4, 0, (w32 (x1 + 1))), (0, 2, q), (2, 0, a2), (3, 2, a3)]) dX5_run_162 rfl (by decide) rfl ?_
          refine z_goto (pc := 165) (tgt := 6) hR dX5_run_165 (by decide) ?_
          refine z_pick (pc := 6) (lv' := [(0, 2, q), (2, 0, a2), (3, 2, a3), (4, 0, (w32 (x1 + 1))), (5, 0, (w32 (x2 + 1)))]) hR [2, 3, 4, 1, 0] rfl ?_
          exact hh6 ((w32 (x1 + 1)), (w32 (x2 + 1)), M8)
        refine z_ifgt (pc := 51) (tgt := 61) hR dX5_run_51 (by decide) ?_ ?_
        · refine z_aload_n (pc := 61) hR 2 dX5_run_61 rfl rfl ?_
          refine z_iload (pc := 62) hR 5 dX5_run_62 rfl ?_
          refine z_bipush (pc := 64) hR dX5_run_64 rfl ?_
          refine z_isub (pc := 66) hR dX5_run_66 ?_
          refine z_chk (fun hc9 => ?_)
          refine z_lald (pc := 67) hR (n := 12) ha3 hc9.1 hc9.2 dX5_run_67 ?_
          refine z_pick (pc := 68) (lv' := [(0, 2, q), (2, 0, a2), (3, 2, a3), (4, 0, x1), (5, 0, x2)]) hR [0, 1, 2, 3, 4] rfl ?_
          exact hj68 ((M3 a3 ((w32 (v5 - 26)))))
        · refine z_iload (pc := 54) hR 5 dX5_run_54 rfl ?_
          refine z_ineg (pc := 56) hR dX5_run_56 ?_
          refine z_i2l (pc := 57) hR dX5_run_57 ?_
          refine z_goto (pc := 58) (tgt := 68) hR dX5_run_58 (by decide) ?_
          refine z_pick (pc := 68) (lv' := [(0, 2, q), (2, 0, a2), (3, 2, a3), (4, 0, x1), (5, 0, x2)]) hR [0, 1, 2, 3, 4] rfl ?_
          exact hj68 ((w32 (-v5)))
      · refine z_lconst (pc := 41) hR (x := 0) dX5_run_41 rfl ?_
        exact z_lreturn (pc := 42) hR rfl rfl dX5_run_42 rfl
    refine z_icmpgt (pc := 26) (tgt := 34) hR dX5_run_26 (by decide) ?_ ?_
    · refine z_pick (pc := 34) (lv' := [(0, 2, q), (2, 0, a2), (3, 2, a3), (4, 0, x1), (5, 0, x2), (6, 0, v5)]) hR [1, 2, 3, 4, 5, 0] rfl ?_
      exact hj34 ()
    · refine z_iload (pc := 29) hR 0 dX5_run_29 rfl ?_
      refine z_ifgt (pc := 31) (tgt := 75) hR dX5_run_31 (by decide) ?_ ?_
      · refine z_iload (pc := 75) hR 0 dX5_run_75 rfl ?_
        refine z_bipush (pc := 77) hR dX5_run_77 rfl ?_
        refine z_icmpne (pc := 79) (tgt := 121) hR dX5_run_79 (by decide) ?_ ?_
        · refine z_iload (pc := 121) hR 4 dX5_run_121 rfl ?_
          refine z_iconst (pc := 123) hR dX5_run_123 rfl ?_
          refine z_icmpge (pc := 124) (tgt := 129) hR dX5_run_124 (by decide) ?_ ?_
          · refine z_iinc (pc := 129) hR (j := 4) (lv' := [(4, 0, (w32 (x1 + (-1)))), (6, 0, v5), (0, 2, q), (2, 0, a2), (3, 2, a3), (5, 0, x2)]) dX5_run_129 rfl (by decide) rfl ?_
            refine z_aload_n (pc := 132) hR 2 dX5_run_132 rfl rfl ?_
            refine z_getr (pc := 133) hR (c0 := 5) (r := (q + 5)) jf_RX5_24 hq (by decide) rfl rfl dX5_run_133 ?_
            refine z_iload (pc := 136) hR 0 dX5_run_136 rfl ?_
            refine z_iconst (pc := 138) hR dX5_run_138 rfl ?_
            refine z_isub (pc := 139) hR dX5_run_139 ?_
            refine z_iload (pc := 140) hR 1 dX5_run_140 rfl ?_
            refine z_aload_n (pc := 142) hR 2 dX5_run_142 rfl rfl ?_
            refine z_getr (pc := 143) hR (c0 := 5) (r := (q + 5)) jf_RX5_24 hq (by decide) rfl rfl dX5_run_143 ?_
            refine z_iload (pc := 146) hR 0 dX5_run_146 rfl ?_
            refine z_iconst (pc := 148) hR dX5_run_148 rfl ?_
            refine z_isub (pc := 149) hR dX5_run_149 ?_
            refine z_chk (fun hc10 => ?_)
            refine z_lald (pc := 150) hR (n := 40) (kf_5_stack hq) hc10.1 hc10.2 dX5_run_150 ?_
            refine z_aload_n (pc := 151) hR 2 dX5_run_151 rfl rfl ?_
            refine z_getr (pc := 152) hR (c0 := 5) (r := (q + 5)) jf_RX5_24 hq (by decide) rfl rfl dX5_run_152 ?_
            refine z_iload (pc := 155) hR 0 dX5_run_155 rfl ?_
            refine z_chk (fun hc11 => ?_)
            refine z_lald (pc := 157) hR (n := 40) (kf_5_stack hq) hc11.1 hc11.2 dX5_run_157 ?_
            refine z_callsp (pc := 158) hR (As := [(0, v5), (1, (M3 ((q + 5)) ((w32 (((w32 (x1 + (-1)))) - 1))))), (1, (M3 ((q + 5)) ((w32 (x1 + (-1))))))]) (st := [(0, (w32 (((w32 (x1 + (-1)))) - 1))), (2, (q + 5))]) jm_X5_combine jl_RX5_43 (by decide) (c_Ru_combine N v5 ((M3 ((q + 5)) ((w32 (((w32 (x1 + (-1)))) - 1))))) ((M3 ((q + 5)) ((w32 (x1 + (-1)))))) M3) rfl (by decide) (by decide) rfl (Nat.le_of_ble_eq_true rfl) dX5_run_158 (fun r12 => ?_)
            refine z_chk (fun hc13 => ?_)
            refine z_last (pc := 161) hR (n := 40) (kf_5_stack hq) hc13.1 hc13.2 dX5_run_161 (fun M14 => ?_)
            refine z_iinc (pc := 162) hR (j := 5) (lv' := [(5, 0, (w32 (x2 + 1))), (4, 0, (w32 (x1 + (-1)))), (6, 0, v5), (0, 2, q), (2, 0, a2), (3, 2, a3)]) dX5_run_162 rfl (by decide) rfl ?_
            refine z_goto (pc := 165) (tgt := 6) hR dX5_run_165 (by decide) ?_
            refine z_pick (pc := 6) (lv' := [(0, 2, q), (2, 0, a2), (3, 2, a3), (4, 0, (w32 (x1 + (-1)))), (5, 0, (w32 (x2 + 1)))]) hR [3, 4, 5, 1, 0] rfl ?_
            exact hh6 ((w32 (x1 + (-1))), (w32 (x2 + 1)), M14)
          · refine z_lconst (pc := 127) hR (x := 0) dX5_run_127 rfl ?_
            exact z_lreturn (pc := 128) hR rfl rfl dX5_run_128 rfl
        · refine z_iload (pc := 82) hR 4 dX5_run_82 rfl ?_
          refine z_iconst (pc := 84) hR dX5_run_84 rfl ?_
          refine z_icmpge (pc := 85) (tgt := 90) hR dX5_run_85 (by decide) ?_ ?_
          · refine z_aload_n (pc := 90) hR 1 dX5_run_90 rfl rfl ?_
            refine z_getr (pc := 91) hR (c0 := 5) (r := (q + 5)) jf_RX5_24 hq (by decide) rfl rfl dX5_run_91 ?_
            refine z_iload (pc := 94) hR 4 dX5_run_94 rfl ?_
            refine z_iconst (pc := 96) hR dX5_run_96 rfl ?_
            refine z_isub (pc := 97) hR dX5_run_97 ?_
            refine z_aload_n (pc := 98) hR 1 dX5_run_98 rfl rfl ?_
            refine z_getr (pc := 99) hR (c0 := 5) (r := (q + 5)) jf_RX5_24 hq (by decide) rfl rfl dX5_run_99 ?_
            refine z_iload (pc := 102) hR 4 dX5_run_102 rfl ?_
            refine z_iconst (pc := 104) hR dX5_run_104 rfl ?_
            refine z_isub (pc := 105) hR dX5_run_105 ?_
            refine z_chk (fun hc15 => ?_)
            refine z_lald (pc := 106) hR (n := 40) (kf_5_stack hq) hc15.1 hc15.2 dX5_run_106 ?_
            refine z_lconst (pc := 107) hR (x := 0) dX5_run_107 rfl ?_
            refine z_lcmp (pc := 108) hR dX5_run_108 ?_
            refine z_join (P := fun j => ∀ (u16 : Int), jZ K id 117 [(0, 2, q), (2, 0, a2), (3, 2, a3), (4, 0, x1), (5, 0, x2)] [(1, u16), (0, (w32 (x1 - 1))), (2, (q + 5))] M3 (j u16)) (fun u16 => ?_) (fun j117 hj117 => ?_)
            · refine z_chk (fun hc17 => ?_)
              refine z_last (pc := 117) hR (n := 40) (kf_5_stack hq) hc17.1 hc17.2 dX5_run_117 (fun M18 => ?_)
              refine z_goto (pc := 118) (tgt := 162) hR dX5_run_118 (by decide) ?_
              refine z_iinc (pc := 162) hR (j := 4) (lv' := [(5, 0, (w32 (x2 + 1))), (0, 2, q), (2, 0, a2), (3, 2, a3), (4, 0, x1)]) dX5_run_162 rfl (by decide) rfl ?_
              refine z_goto (pc := 165) (tgt := 6) hR dX5_run_165 (by decide) ?_
              refine z_pick (pc := 6) (lv' := [(0, 2, q), (2, 0, a2), (3, 2, a3), (4, 0, x1), (5, 0, (w32 (x2 + 1)))]) hR [1, 2, 3, 4, 0] rfl ?_
              exact hh6 (x1, (w32 (x2 + 1)), M18)
            refine z_ifne (pc := 109) (tgt := 116) hR dX5_run_109 (by decide) ?_ ?_
            · refine z_lconst (pc := 116) hR (x := 0) dX5_run_116 rfl ?_
              refine z_pick (pc := 117) (lv' := [(0, 2, q), (2, 0, a2), (3, 2, a3), (4, 0, x1), (5, 0, x2)]) hR [1, 2, 3, 4, 5] rfl ?_
              exact hj117 0
            · refine z_lconst (pc := 112) hR (x := 1) dX5_run_112 rfl ?_
              refine z_goto (pc := 113) (tgt := 117) hR dX5_run_113 (by decide) ?_
              refine z_pick (pc := 117) (lv' := [(0, 2, q), (2, 0, a2), (3, 2, a3), (4, 0, x1), (5, 0, x2)]) hR [1, 2, 3, 4, 5] rfl ?_
              exact hj117 1
          · refine z_lconst (pc := 88) hR (x := 0) dX5_run_88 rfl ?_
            exact z_lreturn (pc := 89) hR rfl rfl dX5_run_89 rfl
      · refine z_pick (pc := 34) (lv' := [(0, 2, q), (2, 0, a2), (3, 2, a3), (4, 0, x1), (5, 0, x2), (6, 0, v5)]) hR [1, 2, 3, 4, 5, 0] rfl ?_
        exact hj34 ()
theorem dX5_worth_0 : decode cX5_worth 0 = .ok (.iconst 0, 1) := by decide +kernel
theorem dX5_worth_1 : decode cX5_worth 1 = .ok (.istore_n 2, 1) := by decide +kernel
theorem dX5_worth_2 : decode cX5_worth 2 = .ok (.iload_n 2, 1) := by decide +kernel
theorem dX5_worth_3 : decode cX5_worth 3 = .ok (.aload_n 0, 1) := by decide +kernel
theorem dX5_worth_4 : decode cX5_worth 4 = .ok (.getfield 32, 3) := by decide +kernel
theorem dX5_worth_7 : decode cX5_worth 7 = .ok (.if_icmp .ge 74, 3) := by decide +kernel
theorem dX5_worth_10 : decode cX5_worth 10 = .ok (.aload_n 0, 1) := by decide +kernel
theorem dX5_worth_11 : decode cX5_worth 11 = .ok (.getfield 18, 3) := by decide +kernel
theorem dX5_worth_14 : decode cX5_worth 14 = .ok (.iload_n 2, 1) := by decide +kernel
theorem dX5_worth_15 : decode cX5_worth 15 = .ok (.iaload, 1) := by decide +kernel
theorem dX5_worth_16 : decode cX5_worth 16 = .ok (.aload_n 0, 1) := by decide +kernel
theorem dX5_worth_17 : decode cX5_worth 17 = .ok (.getfield 21, 3) := by decide +kernel
theorem dX5_worth_20 : decode cX5_worth 20 = .ok (.iload_n 2, 1) := by decide +kernel
theorem dX5_worth_21 : decode cX5_worth 21 = .ok (.iaload, 1) := by decide +kernel
theorem dX5_worth_22 : decode cX5_worth 22 = .ok (.if_icmp .eq 25, 3) := by decide +kernel
theorem dX5_worth_25 : decode cX5_worth 25 = .ok (.aload_n 0, 1) := by decide +kernel
theorem dX5_worth_26 : decode cX5_worth 26 = .ok (.aload_n 0, 1) := by decide +kernel
theorem dX5_worth_27 : decode cX5_worth 27 = .ok (.getfield 18, 3) := by decide +kernel
theorem dX5_worth_30 : decode cX5_worth 30 = .ok (.iload_n 2, 1) := by decide +kernel
theorem dX5_worth_31 : decode cX5_worth 31 = .ok (.iaload, 1) := by decide +kernel
theorem dX5_worth_32 : decode cX5_worth 32 = .ok (.aload_n 0, 1) := by decide +kernel
theorem dX5_worth_33 : decode cX5_worth 33 = .ok (.getfield 21, 3) := by decide +kernel
theorem dX5_worth_36 : decode cX5_worth 36 = .ok (.iload_n 2, 1) := by decide +kernel
theorem dX5_worth_37 : decode cX5_worth 37 = .ok (.iaload, 1) := by decide +kernel
theorem dX5_worth_38 : decode cX5_worth 38 = .ok (.aload_n 1, 1) := by decide +kernel
theorem dX5_worth_39 : decode cX5_worth 39 = .ok (.invokevirtual 39, 3) := by decide +kernel
theorem dX5_worth_42 : decode cX5_worth 42 = .ok (.lconst 0, 1) := by decide +kernel
theorem dX5_worth_43 : decode cX5_worth 43 = .ok (.lcmp, 1) := by decide +kernel
theorem dX5_worth_44 : decode cX5_worth 44 = .ok (.ifCond .eq 7, 3) := by decide +kernel
theorem dX5_worth_47 : decode cX5_worth 47 = .ok (.iconst 1, 1) := by decide +kernel
theorem dX5_worth_48 : decode cX5_worth 48 = .ok (.goto 4, 3) := by decide +kernel
theorem dX5_worth_51 : decode cX5_worth 51 = .ok (.iconst 0, 1) := by decide +kernel
theorem dX5_worth_52 : decode cX5_worth 52 = .ok (.istore_n 3, 1) := by decide +kernel
theorem dX5_worth_53 : decode cX5_worth 53 = .ok (.iload_n 3, 1) := by decide +kernel
theorem dX5_worth_54 : decode cX5_worth 54 = .ok (.ifCond .eq 21, 3) := by decide +kernel
theorem dX5_worth_57 : decode cX5_worth 57 = .ok (.aload_n 0, 1) := by decide +kernel
theorem dX5_worth_58 : decode cX5_worth 58 = .ok (.aload_n 0, 1) := by decide +kernel
theorem dX5_worth_59 : decode cX5_worth 59 = .ok (.getfield 15, 3) := by decide +kernel
theorem dX5_worth_62 : decode cX5_worth 62 = .ok (.iload_n 2, 1) := by decide +kernel
theorem dX5_worth_63 : decode cX5_worth 63 = .ok (.iaload, 1) := by decide +kernel
theorem dX5_worth_64 : decode cX5_worth 64 = .ok (.aload_n 0, 1) := by decide +kernel
theorem dX5_worth_65 : decode cX5_worth 65 = .ok (.getfield 18, 3) := by decide +kernel
theorem dX5_worth_68 : decode cX5_worth 68 = .ok (.iload_n 2, 1) := by decide +kernel
theorem dX5_worth_69 : decode cX5_worth 69 = .ok (.iaload, 1) := by decide +kernel
theorem dX5_worth_70 : decode cX5_worth 70 = .ok (.aload_n 1, 1) := by decide +kernel
theorem dX5_worth_71 : decode cX5_worth 71 = .ok (.invokevirtual 39, 3) := by decide +kernel
theorem dX5_worth_74 : decode cX5_worth 74 = .ok (.lreturn, 1) := by decide +kernel
theorem dX5_worth_75 : decode cX5_worth 75 = .ok (.iinc 2 1, 3) := by decide +kernel
theorem dX5_worth_78 : decode cX5_worth 78 = .ok (.goto (-76), 3) := by decide +kernel
theorem dX5_worth_81 : decode cX5_worth 81 = .ok (.lconst 0, 1) := by decide +kernel
theorem dX5_worth_82 : decode cX5_worth 82 = .ok (.lreturn, 1) := by decide +kernel
def Ru_worth_L2 (N : Nat) (q : Int) (a1 : Int) (h2 : (Int × jMem) → Option (Int × jMem)) : Int × jMem → Option (Int × jMem)
  | (x1, M2) => (if x1 < (M2 q 5) then jchk (0 ≤ x1 ∧ x1 < 12) <| jchk (0 ≤ x1 ∧ x1 < 12) <| jlt (fun (u5 : Int) (M6 : jMem) => (if u5 = 0 then h2 ((w32 (x1 + 1)), M6) else jchk (0 ≤ x1 ∧ x1 < 12) <| jchk (0 ≤ x1 ∧ x1 < 12) <| jb1 (Ru_run N q ((M6 ((q + 2)) x1)) ((M6 ((q + 3)) x1)) a1 M6) fun r9 M10 => some (r9, M10))) fun j52 => (if (M2 ((q + 3)) x1) = (M2 ((q + 4)) x1) then j52 1 M2 else jchk (0 ≤ x1 ∧ x1 < 12) <| jchk (0 ≤ x1 ∧ x1 < 12) <| jb1 (Ru_run N q ((M2 ((q + 3)) x1)) ((M2 ((q + 4)) x1)) a1 M2) fun r13 M14 => (if (jcmp r13 0) = 0 then j52 0 M14 else j52 1 M14)) else some (0, M2))
def Ru_worth (N : Nat) (q a1 : Int) (M : jMem) : Option (Int × jMem) := jfix N (Ru_worth_L2 N q a1) (0, M)
theorem c_Ru_worth {l : Launch} {g : jG} (N : Nat) (q a1 : Int) (M : jMem) (hq : jk jTX q 5) (ha1 : ja jTX a1 4 12) : ∀ o, Ru_worth N q a1 M = some o → jCt l g jTX yX5_worth cX5_worth 4 (some .long) 1 5 [(2, q), (2, a1)] M o := by
  refine jMet (own := RX5) (em := id) (L := [(0, 2, q), (1, 2, a1)]) (by decide +kernel) rfl (Nat.le_of_ble_eq_true rfl) rfl (fun K hR => ?_)
  unfold Ru_worth
  refine z_iconst (pc := 0) hR dX5_worth_0 rfl ?_
  refine z_istore_n (pc := 1) hR (lv' := [(2, 0, 0), (0, 2, q), (1, 2, a1)]) dX5_worth_1 rfl (by decide) rfl ?_
  refine z_pick (pc := 2) (lv' := [(0, 2, q), (1, 2, a1), (2, 0, 0)]) hR [1, 2, 0] rfl ?_
  refine z_fix (σ := Int × jMem) (lv := fun s => [(0, 2, q), (1, 2, a1), (2, 0, s.1)]) (st := fun _ => []) (M := fun s => s.2) (fun h2 hh2 => ?_) N (0, M)
  rintro ⟨x1, M2⟩
  show jZ K id 2 [(0, 2, q), (1, 2, a1), (2, 0, x1)] [] M2 _
  unfold Ru_worth_L2
  refine z_iload_n (pc := 2) hR 2 dX5_worth_2 rfl rfl ?_
  refine z_aload_n (pc := 3) hR 0 dX5_worth_3 rfl rfl ?_
  refine z_geti (pc := 4) hR (j := 5) jf_RX5_32 hq (by decide) rfl rfl dX5_worth_4 ?_
  refine z_icmpge (pc := 7) (tgt := 81) hR dX5_worth_7 (by decide) ?_ ?_
  · refine z_lconst (pc := 81) hR (x := 0) dX5_worth_81 rfl ?_
    exact z_lreturn (pc := 82) hR rfl rfl dX5_worth_82 rfl
  · refine z_aload_n (pc := 10) hR 0 dX5_worth_10 rfl rfl ?_
    refine z_getr (pc := 11) hR (c0 := 3) (r := (q + 3)) jf_RX5_18 hq (by decide) rfl rfl dX5_worth_11 ?_
    refine z_iload_n (pc := 14) hR 2 dX5_worth_14 rfl rfl ?_
    refine z_chk (fun hc3 => ?_)
    refine z_iald (pc := 15) hR (n := 12) (kf_5_testFrom hq) hc3.1 hc3.2 dX5_worth_15 ?_
    refine z_aload_n (pc := 16) hR 0 dX5_worth_16 rfl rfl ?_
    refine z_getr (pc := 17) hR (c0 := 4) (r := (q + 4)) jf_RX5_21 hq (by decide) rfl rfl dX5_worth_17 ?_
    refine z_iload_n (pc := 20) hR 2 dX5_worth_20 rfl rfl ?_
    refine z_chk (fun hc4 => ?_)
    refine z_iald (pc := 21) hR (n := 12) (kf_5_testTo hq) hc4.1 hc4.2 dX5_worth_21 ?_
    refine z_join (P := fun j => ∀ (u5 : Int) (M6 : jMem), jZ K id 52 [(0, 2, q), (1, 2, a1), (2, 0, x1)] [(0, u5)] M6 (j u5 M6)) (fun u5 M6 => ?_) (fun j52 hj52 => ?_)
    · refine z_istore_n (pc := 52) hR (lv' := [(3, 0, u5), (0, 2, q), (1, 2, a1), (2, 0, x1)]) dX5_worth_52 rfl (by decide) rfl ?_
      refine z_iload_n (pc := 53) hR 0 dX5_worth_53 rfl rfl ?_
      refine z_ifeq (pc := 54) (tgt := 75) hR dX5_worth_54 (by decide) ?_ ?_
      · refine z_iinc (pc := 75) hR (j := 3) (lv' := [(2, 0, (w32 (x1 + 1))), (3, 0, u5), (0, 2, q), (1, 2, a1)]) dX5_worth_75 rfl (by decide) rfl ?_
        refine z_goto (pc := 78) (tgt := 2) hR dX5_worth_78 (by decide) ?_
        refine z_pick (pc := 2) (lv' := [(0, 2, q), (1, 2, a1), (2, 0, (w32 (x1 + 1)))]) hR [2, 3, 0] rfl ?_
        exact hh2 ((w32 (x1 + 1)), M6)
      · refine z_aload_n (pc := 57) hR 1 dX5_worth_57 rfl rfl ?_
        refine z_aload_n (pc := 58) hR 1 dX5_worth_58 rfl rfl ?_
        refine z_getr (pc := 59) hR (c0 := 2) (r := (q + 2)) jf_RX5_15 hq (by decide) rfl rfl dX5_worth_59 ?_
        refine z_iload_n (pc := 62) hR 3 dX5_worth_62 rfl rfl ?_
        refine z_chk (fun hc7 => ?_)
        refine z_iald (pc := 63) hR (n := 12) (kf_5_sumFrom hq) hc7.1 hc7.2 dX5_worth_63 ?_
        refine z_aload_n (pc := 64) hR 1 dX5_worth_64 rfl rfl ?_
        refine z_getr (pc := 65) hR (c0 := 3) (r := (q + 3)) jf_RX5_18 hq (by decide) rfl rfl dX5_worth_65 ?_
        refine z_iload_n (pc := 68) hR 3 dX5_worth_68 rfl rfl ?_
        refine z_chk (fun hc8 => ?_)
        refine z_iald (pc := 69) hR (n := 12) (kf_5_testFrom hq) hc8.1 hc8.2 dX5_worth_69 ?_
        refine z_aload_n (pc := 70) hR 2 dX5_worth_70 rfl rfl ?_
        refine z_callv1 (pc := 71) hR (As := [(0, (M6 ((q + 2)) x1)), (0, (M6 ((q + 3)) x1)), (2, a1)]) (st := []) jm_X5_run jl_RX5_39 hq (by decide) rfl (by decide) (c_Ru_run N q ((M6 ((q + 2)) x1)) ((M6 ((q + 3)) x1)) a1 M6 hq ha1) rfl (by decide) (by decide) rfl (Nat.le_of_ble_eq_true rfl) dX5_worth_71 (fun r9 M10 => ?_)
        exact z_lreturn (pc := 74) hR rfl rfl dX5_worth_74 rfl
    refine z_icmpeq (pc := 22) (tgt := 47) hR dX5_worth_22 (by decide) ?_ ?_
    · refine z_iconst (pc := 47) hR dX5_worth_47 rfl ?_
      refine z_goto (pc := 48) (tgt := 52) hR dX5_worth_48 (by decide) ?_
      exact hj52 1 M2
    · refine z_aload_n (pc := 25) hR 0 dX5_worth_25 rfl rfl ?_
      refine z_aload_n (pc := 26) hR 0 dX5_worth_26 rfl rfl ?_
      refine z_getr (pc := 27) hR (c0 := 3) (r := (q + 3)) jf_RX5_18 hq (by decide) rfl rfl dX5_worth_27 ?_
      refine z_iload_n (pc := 30) hR 2 dX5_worth_30 rfl rfl ?_
      refine z_chk (fun hc11 => ?_)
      refine z_iald (pc := 31) hR (n := 12) (kf_5_testFrom hq) hc11.1 hc11.2 dX5_worth_31 ?_
      refine z_aload_n (pc := 32) hR 0 dX5_worth_32 rfl rfl ?_
      refine z_getr (pc := 33) hR (c0 := 4) (r := (q + 4)) jf_RX5_21 hq (by decide) rfl rfl dX5_worth_33 ?_
      refine z_iload_n (pc := 36) hR 2 dX5_worth_36 rfl rfl ?_
      refine z_chk (fun hc12 => ?_)
      refine z_iald (pc := 37) hR (n := 12) (kf_5_testTo hq) hc12.1 hc12.2 dX5_worth_37 ?_
      refine z_aload_n (pc := 38) hR 1 dX5_worth_38 rfl rfl ?_
      refine z_callv1 (pc := 39) hR (As := [(0, (M2 ((q + 3)) x1)), (0, (M2 ((q + 4)) x1)), (2, a1)]) (st := []) jm_X5_run jl_RX5_39 hq (by decide) rfl (by decide) (c_Ru_run N q ((M2 ((q + 3)) x1)) ((M2 ((q + 4)) x1)) a1 M2 hq ha1) rfl (by decide) (by decide) rfl (Nat.le_of_ble_eq_true rfl) dX5_worth_39 (fun r13 M14 => ?_)
      refine z_lconst (pc := 42) hR (x := 0) dX5_worth_42 rfl ?_
      refine z_lcmp (pc := 43) hR dX5_worth_43 ?_
      refine z_ifeq (pc := 44) (tgt := 51) hR dX5_worth_44 (by decide) ?_ ?_
      · refine z_iconst (pc := 51) hR dX5_worth_51 rfl ?_
        exact hj52 0 M14
      · refine z_iconst (pc := 47) hR dX5_worth_47 rfl ?_
        refine z_goto (pc := 48) (tgt := 52) hR dX5_worth_48 (by decide) ?_
        exact hj52 1 M14
theorem dX10_bestTwo_0 : decode cX10_bestTwo 0 = .ok (.aload_n 0, 1) := by decide +kernel
theorem dX10_bestTwo_1 : decode cX10_bestTwo 1 = .ok (.getfield 15, 3) := by decide +kernel
theorem dX10_bestTwo_4 : decode cX10_bestTwo 4 = .ok (.bipush 9, 2) := by decide +kernel
theorem dX10_bestTwo_6 : decode cX10_bestTwo 6 = .ok (.aload_n 2, 1) := by decide +kernel
theorem dX10_bestTwo_7 : decode cX10_bestTwo 7 = .ok (.invokevirtual 61, 3) := by decide +kernel
theorem dX10_bestTwo_10 : decode cX10_bestTwo 10 = .ok (.i2l, 1) := by decide +kernel
theorem dX10_bestTwo_11 : decode cX10_bestTwo 11 = .ok (.lastore, 1) := by decide +kernel
theorem dX10_bestTwo_12 : decode cX10_bestTwo 12 = .ok (.aload_n 0, 1) := by decide +kernel
theorem dX10_bestTwo_13 : decode cX10_bestTwo 13 = .ok (.getfield 15, 3) := by decide +kernel
theorem dX10_bestTwo_16 : decode cX10_bestTwo 16 = .ok (.bipush 10, 2) := by decide +kernel
theorem dX10_bestTwo_18 : decode cX10_bestTwo 18 = .ok (.aload_n 2, 1) := by decide +kernel
theorem dX10_bestTwo_19 : decode cX10_bestTwo 19 = .ok (.invokevirtual 65, 3) := by decide +kernel
theorem dX10_bestTwo_22 : decode cX10_bestTwo 22 = .ok (.i2l, 1) := by decide +kernel
theorem dX10_bestTwo_23 : decode cX10_bestTwo 23 = .ok (.lastore, 1) := by decide +kernel
theorem dX10_bestTwo_24 : decode cX10_bestTwo 24 = .ok (.aload_n 0, 1) := by decide +kernel
theorem dX10_bestTwo_25 : decode cX10_bestTwo 25 = .ok (.getfield 15, 3) := by decide +kernel
theorem dX10_bestTwo_28 : decode cX10_bestTwo 28 = .ok (.bipush 11, 2) := by decide +kernel
theorem dX10_bestTwo_30 : decode cX10_bestTwo 30 = .ok (.aload_n 2, 1) := by decide +kernel
theorem dX10_bestTwo_31 : decode cX10_bestTwo 31 = .ok (.getfield 47, 3) := by decide +kernel
theorem dX10_bestTwo_34 : decode cX10_bestTwo 34 = .ok (.i2l, 1) := by decide +kernel
theorem dX10_bestTwo_35 : decode cX10_bestTwo 35 = .ok (.lastore, 1) := by decide +kernel
theorem dX10_bestTwo_36 : decode cX10_bestTwo 36 = .ok (.lconst 0, 1) := by decide +kernel
theorem dX10_bestTwo_37 : decode cX10_bestTwo 37 = .ok (.lstore 4, 2) := by decide +kernel
theorem dX10_bestTwo_39 : decode cX10_bestTwo 39 = .ok (.bipush (-2), 2) := by decide +kernel
theorem dX10_bestTwo_41 : decode cX10_bestTwo 41 = .ok (.istore 6, 2) := by decide +kernel
theorem dX10_bestTwo_43 : decode cX10_bestTwo 43 = .ok (.iconst 0, 1) := by decide +kernel
theorem dX10_bestTwo_44 : decode cX10_bestTwo 44 = .ok (.istore 7, 2) := by decide +kernel
theorem dX10_bestTwo_46 : decode cX10_bestTwo 46 = .ok (.iload 7, 2) := by decide +kernel
theorem dX10_bestTwo_48 : decode cX10_bestTwo 48 = .ok (.aload_n 2, 1) := by decide +kernel
theorem dX10_bestTwo_49 : decode cX10_bestTwo 49 = .ok (.getfield 50, 3) := by decide +kernel
theorem dX10_bestTwo_52 : decode cX10_bestTwo 52 = .ok (.if_icmp .ge 86, 3) := by decide +kernel
theorem dX10_bestTwo_55 : decode cX10_bestTwo 55 = .ok (.iload 7, 2) := by decide +kernel
theorem dX10_bestTwo_57 : decode cX10_bestTwo 57 = .ok (.iconst 1, 1) := by decide +kernel
theorem dX10_bestTwo_58 : decode cX10_bestTwo 58 = .ok (.iadd, 1) := by decide +kernel
theorem dX10_bestTwo_59 : decode cX10_bestTwo 59 = .ok (.istore 8, 2) := by decide +kernel
theorem dX10_bestTwo_61 : decode cX10_bestTwo 61 = .ok (.iload 8, 2) := by decide +kernel
theorem dX10_bestTwo_63 : decode cX10_bestTwo 63 = .ok (.aload_n 2, 1) := by decide +kernel
theorem dX10_bestTwo_64 : decode cX10_bestTwo 64 = .ok (.getfield 50, 3) := by decide +kernel
theorem dX10_bestTwo_67 : decode cX10_bestTwo 67 = .ok (.if_icmp .ge 65, 3) := by decide +kernel
theorem dX10_bestTwo_70 : decode cX10_bestTwo 70 = .ok (.aload_n 2, 1) := by decide +kernel
theorem dX10_bestTwo_71 : decode cX10_bestTwo 71 = .ok (.aload_n 1, 1) := by decide +kernel
theorem dX10_bestTwo_72 : decode cX10_bestTwo 72 = .ok (.iload 7, 2) := by decide +kernel
theorem dX10_bestTwo_74 : decode cX10_bestTwo 74 = .ok (.iload 8, 2) := by decide +kernel
theorem dX10_bestTwo_76 : decode cX10_bestTwo 76 = .ok (.invokevirtual 57, 3) := by decide +kernel
theorem dX10_bestTwo_79 : decode cX10_bestTwo 79 = .ok (.ifCond .ne 6, 3) := by decide +kernel
theorem dX10_bestTwo_82 : decode cX10_bestTwo 82 = .ok (.goto 44, 3) := by decide +kernel
theorem dX10_bestTwo_85 : decode cX10_bestTwo 85 = .ok (.aload_n 0, 1) := by decide +kernel
theorem dX10_bestTwo_86 : decode cX10_bestTwo 86 = .ok (.aload_n 2, 1) := by decide +kernel
theorem dX10_bestTwo_87 : decode cX10_bestTwo 87 = .ok (.iload 7, 2) := by decide +kernel
theorem dX10_bestTwo_89 : decode cX10_bestTwo 89 = .ok (.iload 8, 2) := by decide +kernel
theorem dX10_bestTwo_91 : decode cX10_bestTwo 91 = .ok (.invokevirtual 68, 3) := by decide +kernel
theorem dX10_bestTwo_94 : decode cX10_bestTwo 94 = .ok (.aload_n 3, 1) := by decide +kernel
theorem dX10_bestTwo_95 : decode cX10_bestTwo 95 = .ok (.aload_n 0, 1) := by decide +kernel
theorem dX10_bestTwo_96 : decode cX10_bestTwo 96 = .ok (.getfield 15, 3) := by decide +kernel
theorem dX10_bestTwo_99 : decode cX10_bestTwo 99 = .ok (.invokevirtual 72, 3) := by decide +kernel
theorem dX10_bestTwo_102 : decode cX10_bestTwo 102 = .ok (.lstore 9, 2) := by decide +kernel
theorem dX10_bestTwo_104 : decode cX10_bestTwo 104 = .ok (.lload 9, 2) := by decide +kernel
theorem dX10_bestTwo_106 : decode cX10_bestTwo 106 = .ok (.lload 4, 2) := by decide +kernel
theorem dX10_bestTwo_108 : decode cX10_bestTwo 108 = .ok (.lcmp, 1) := by decide +kernel
theorem dX10_bestTwo_109 : decode cX10_bestTwo 109 = .ok (.ifCond .le 17, 3) := by decide +kernel
theorem dX10_bestTwo_112 : decode cX10_bestTwo 112 = .ok (.lload 9, 2) := by decide +kernel
theorem dX10_bestTwo_114 : decode cX10_bestTwo 114 = .ok (.lstore 4, 2) := by decide +kernel
theorem dX10_bestTwo_116 : decode cX10_bestTwo 116 = .ok (.bipush 8, 2) := by decide +kernel
theorem dX10_bestTwo_118 : decode cX10_bestTwo 118 = .ok (.iload 7, 2) := by decide +kernel
theorem dX10_bestTwo_120 : decode cX10_bestTwo 120 = .ok (.imul, 1) := by decide +kernel
theorem dX10_bestTwo_121 : decode cX10_bestTwo 121 = .ok (.iload 8, 2) := by decide +kernel
theorem dX10_bestTwo_123 : decode cX10_bestTwo 123 = .ok (.iadd, 1) := by decide +kernel
theorem dX10_bestTwo_124 : decode cX10_bestTwo 124 = .ok (.istore 6, 2) := by decide +kernel
theorem dX10_bestTwo_126 : decode cX10_bestTwo 126 = .ok (.iinc 8 1, 3) := by decide +kernel
theorem dX10_bestTwo_129 : decode cX10_bestTwo 129 = .ok (.goto (-68), 3) := by decide +kernel
theorem dX10_bestTwo_132 : decode cX10_bestTwo 132 = .ok (.iinc 7 1, 3) := by decide +kernel
theorem dX10_bestTwo_135 : decode cX10_bestTwo 135 = .ok (.goto (-89), 3) := by decide +kernel
theorem dX10_bestTwo_138 : decode cX10_bestTwo 138 = .ok (.iload 6, 2) := by decide +kernel
theorem dX10_bestTwo_140 : decode cX10_bestTwo 140 = .ok (.ireturn, 1) := by decide +kernel
def Ye_bestTwo_L61 (N : Nat) (q : Int) (a2 : Int) (a3 : Int) (x8 : Int) (h46 : (Int × Int × Int × jMem) → Option (Int × jMem)) (h61 : (Int × Int × Int × jMem) → Option (Int × jMem)) : Int × Int × Int × jMem → Option (Int × jMem)
  | (x11, x12, x13, M14) => (if x13 < (M14 a2 0) then (St_canWed N a2 x8 x13 M14).bind fun r15 => (if r15 = 0 then h61 (x11, x12, (w32 (x13 + 1)), M14) else jbv (Ye_tellTwo N q a2 x8 x13 M14) fun M16 => jb1 (Ru_worth N a3 ((q + 2)) M16) fun r17 M18 => (if 0 < (jcmp r17 x11) then jlt ((w32 (((w32 (8 * x8))) + x13))) fun v19 => h61 (r17, v19, (w32 (x13 + 1)), M18) else h61 (x11, x12, (w32 (x13 + 1)), M18))) else h46 (x11, x12, (w32 (x8 + 1)), M14))
def Ye_bestTwo_L46 (N : Nat) (q : Int) (a2 : Int) (a3 : Int) (h46 : (Int × Int × Int × jMem) → Option (Int × jMem)) : Int × Int × Int × jMem → Option (Int × jMem)
  | (x6, x7, x8, M9) => (if x8 < (M9 a2 0) then jlt ((w32 (x8 + 1))) fun v10 => jfix N (Ye_bestTwo_L61 N q a2 a3 x8 h46) (x6, x7, v10, M9) else some (x7, M9))
def Ye_bestTwo (N : Nat) (q a2 a3 : Int) (M : jMem) : Option (Int × jMem) := (St_homes N a2 M).bind fun r1 => jlt (up M ((q + 2)) 9 r1) fun M2 => (St_dries N a2 M2).bind fun r3 => jlt (up M2 ((q + 2)) 10 r3) fun M4 => jlt (up M4 ((q + 2)) 11 ((M4 a2 1))) fun M5 => jfix N (Ye_bestTwo_L46 N q a2 a3) (0, (-2), 0, M5)
theorem c_Ye_bestTwo {l : Launch} {g : jG} (N : Nat) (q a2 a3 : Int) (M : jMem) (hq : jk jTX q 10) (ha2 : jk jTX a2 7) (ha3 : jk jTX a3 5) : ∀ o, Ye_bestTwo N q a2 a3 M = some o → jCt l g jTX yX10_bestTwo cX10_bestTwo 11 (some .int) 0 7 [(2, q), (2, 15), (2, a2), (2, a3)] M o := by
  refine jMet (own := RX10) (em := id) (L := [(0, 2, q), (1, 2, 15), (2, 2, a2), (3, 2, a3)]) (by decide +kernel) rfl (Nat.le_of_ble_eq_true rfl) rfl (fun K hR => ?_)
  unfold Ye_bestTwo
  refine z_aload_n (pc := 0) hR 0 dX10_bestTwo_0 rfl rfl ?_
  refine z_getr (pc := 1) hR (c0 := 2) (r := (q + 2)) jf_RX10_15 hq (by decide) rfl rfl dX10_bestTwo_1 ?_
  refine z_bipush (pc := 4) hR dX10_bestTwo_4 rfl ?_
  refine z_aload_n (pc := 6) hR 2 dX10_bestTwo_6 rfl rfl ?_
  refine z_callvp (pc := 7) hR (As := []) (st := [(0, 9), (2, (q + 2))]) jm_X7_homes jl_RX10_61 ha2 (by decide) rfl (by decide) (c_St_homes N a2 M ha2) rfl (by decide) (by decide) rfl (Nat.le_of_ble_eq_true rfl) dX10_bestTwo_7 (fun r1 => ?_)
  refine z_i2l (pc := 10) hR dX10_bestTwo_10 ?_
  refine z_last (pc := 11) hR (n := 12) (kf_10_words hq) (by decide) (by decide) dX10_bestTwo_11 (fun M2 => ?_)
  refine z_aload_n (pc := 12) hR 0 dX10_bestTwo_12 rfl rfl ?_
  refine z_getr (pc := 13) hR (c0 := 2) (r := (q + 2)) jf_RX10_15 hq (by decide) rfl rfl dX10_bestTwo_13 ?_
  refine z_bipush (pc := 16) hR dX10_bestTwo_16 rfl ?_
  refine z_aload_n (pc := 18) hR 2 dX10_bestTwo_18 rfl rfl ?_
  refine z_callvp (pc := 19) hR (As := []) (st := [(0, 10), (2, (q + 2))]) jm_X7_dries jl_RX10_65 ha2 (by decide) rfl (by decide) (c_St_dries N a2 M2 ha2) rfl (by decide) (by decide) rfl (Nat.le_of_ble_eq_true rfl) dX10_bestTwo_19 (fun r3 => ?_)
  refine z_i2l (pc := 22) hR dX10_bestTwo_22 ?_
  refine z_last (pc := 23) hR (n := 12) (kf_10_words hq) (by decide) (by decide) dX10_bestTwo_23 (fun M4 => ?_)
  refine z_aload_n (pc := 24) hR 0 dX10_bestTwo_24 rfl rfl ?_
  refine z_getr (pc := 25) hR (c0 := 2) (r := (q + 2)) jf_RX10_15 hq (by decide) rfl rfl dX10_bestTwo_25 ?_
  refine z_bipush (pc := 28) hR dX10_bestTwo_28 rfl ?_
  refine z_aload_n (pc := 30) hR 2 dX10_bestTwo_30 rfl rfl ?_
  refine z_geti (pc := 31) hR (j := 1) jf_RX10_47 ha2 (by decide) rfl rfl dX10_bestTwo_31 ?_
  refine z_i2l (pc := 34) hR dX10_bestTwo_34 ?_
  refine z_last (pc := 35) hR (n := 12) (kf_10_words hq) (by decide) (by decide) dX10_bestTwo_35 (fun M5 => ?_)
  refine z_lconst (pc := 36) hR (x := 0) dX10_bestTwo_36 rfl ?_
  refine z_lstore (pc := 37) hR (lv' := [(4, 1, 0), (0, 2, q), (1, 2, 15), (2, 2, a2), (3, 2, a3)]) dX10_bestTwo_37 (by decide) rfl ?_
  refine z_bipush (pc := 39) hR dX10_bestTwo_39 rfl ?_
  refine z_istore (pc := 41) hR (lv' := [(6, 0, (-2)), (4, 1, 0), (0, 2, q), (1, 2, 15), (2, 2, a2), (3, 2, a3)]) dX10_bestTwo_41 (by decide) rfl ?_
  refine z_iconst (pc := 43) hR dX10_bestTwo_43 rfl ?_
  refine z_istore (pc := 44) hR (lv' := [(7, 0, 0), (6, 0, (-2)), (4, 1, 0), (0, 2, q), (1, 2, 15), (2, 2, a2), (3, 2, a3)]) dX10_bestTwo_44 (by decide) rfl ?_
  refine z_pick (pc := 46) (lv' := [(0, 2, q), (1, 2, 15), (2, 2, a2), (3, 2, a3), (4, 1, 0), (6, 0, (-2)), (7, 0, 0)]) hR [3, 4, 5, 6, 2, 1, 0] rfl ?_
  refine z_fix (σ := Int × Int × Int × jMem) (lv := fun s => [(0, 2, q), (1, 2, 15), (2, 2, a2), (3, 2, a3), (4, 1, s.1), (6, 0, s.2.1), (7, 0, s.2.2.1)]) (st := fun _ => []) (M := fun s => s.2.2.2) (fun h46 hh46 => ?_) N (0, (-2), 0, M5)
  rintro ⟨x6, x7, x8, M9⟩
  show jZ K id 46 [(0, 2, q), (1, 2, 15), (2, 2, a2), (3, 2, a3), (4, 1, x6), (6, 0, x7), (7, 0, x8)] [] M9 _
  unfold Ye_bestTwo_L46
  refine z_iload (pc := 46) hR 6 dX10_bestTwo_46 rfl ?_
  refine z_aload_n (pc := 48) hR 2 dX10_bestTwo_48 rfl rfl ?_
  refine z_geti (pc := 49) hR (j := 0) jf_RX10_50 ha2 (by decide) rfl rfl dX10_bestTwo_49 ?_
  refine z_icmpge (pc := 52) (tgt := 138) hR dX10_bestTwo_52 (by decide) ?_ ?_
  · refine z_iload (pc := 138) hR 5 dX10_bestTwo_138 rfl ?_
    exact z_ireturn (pc := 140) hR rfl rfl dX10_bestTwo_140 rfl
  · refine z_iload (pc := 55) hR 6 dX10_bestTwo_55 rfl ?_
    refine z_iconst (pc := 57) hR dX10_bestTwo_57 rfl ?_
    refine z_iadd (pc := 58) hR dX10_bestTwo_58 ?_
    refine z_let1 (fun v10 => ?_)
    refine z_istore (pc := 59) hR (lv' := [(8, 0, v10), (0, 2, q), (1, 2, 15), (2, 2, a2), (3, 2, a3), (4, 1, x6), (6, 0, x7), (7, 0, x8)]) dX10_bestTwo_59 (by decide) rfl ?_
    refine z_pick (pc := 61) (lv' := [(0, 2, q), (1, 2, 15), (2, 2, a2), (3, 2, a3), (4, 1, x6), (6, 0, x7), (7, 0, x8), (8, 0, v10)]) hR [1, 2, 3, 4, 5, 6, 7, 0] rfl ?_
    refine z_fix (σ := Int × Int × Int × jMem) (lv := fun s => [(0, 2, q), (1, 2, 15), (2, 2, a2), (3, 2, a3), (4, 1, s.1), (6, 0, s.2.1), (7, 0, x8), (8, 0, s.2.2.1)]) (st := fun _ => []) (M := fun s => s.2.2.2) (fun h61 hh61 => ?_) N (x6, x7, v10, M9)
    rintro ⟨x11, x12, x13, M14⟩
    show jZ K id 61 [(0, 2, q), (1, 2, 15), (2, 2, a2), (3, 2, a3), (4, 1, x11), (6, 0, x12), (7, 0, x8), (8, 0, x13)] [] M14 _
    unfold Ye_bestTwo_L61
    refine z_iload (pc := 61) hR 7 dX10_bestTwo_61 rfl ?_
    refine z_aload_n (pc := 63) hR 2 dX10_bestTwo_63 rfl rfl ?_
    refine z_geti (pc := 64) hR (j := 0) jf_RX10_50 ha2 (by decide) rfl rfl dX10_bestTwo_64 ?_
    refine z_icmpge (pc := 67) (tgt := 132) hR dX10_bestTwo_67 (by decide) ?_ ?_
    · refine z_iinc (pc := 132) hR (j := 6) (lv' := [(7, 0, (w32 (x8 + 1))), (0, 2, q), (1, 2, 15), (2, 2, a2), (3, 2, a3), (4, 1, x11), (6, 0, x12), (8, 0, x13)]) dX10_bestTwo_132 rfl (by decide) rfl ?_
      refine z_goto (pc := 135) (tgt := 46) hR dX10_bestTwo_135 (by decide) ?_
      refine z_pick (pc := 46) (lv' := [(0, 2, q), (1, 2, 15), (2, 2, a2), (3, 2, a3), (4, 1, x11), (6, 0, x12), (7, 0, (w32 (x8 + 1)))]) hR [1, 2, 3, 4, 5, 6, 0] rfl ?_
      exact hh46 (x11, x12, (w32 (x8 + 1)), M14)
    · refine z_aload_n (pc := 70) hR 2 dX10_bestTwo_70 rfl rfl ?_
      refine z_aload_n (pc := 71) hR 1 dX10_bestTwo_71 rfl rfl ?_
      refine z_iload (pc := 72) hR 6 dX10_bestTwo_72 rfl ?_
      refine z_iload (pc := 74) hR 7 dX10_bestTwo_74 rfl ?_
      refine z_callvp (pc := 76) hR (As := [(2, 15), (0, x8), (0, x13)]) (st := []) jm_X7_canWed jl_RX10_57 ha2 (by decide) rfl (by decide) (c_St_canWed N a2 x8 x13 M14 ha2) rfl (by decide) (by decide) rfl (Nat.le_of_ble_eq_true rfl) dX10_bestTwo_76 (fun r15 => ?_)
      refine z_ifne (pc := 79) (tgt := 85) hR dX10_bestTwo_79 (by decide) ?_ ?_
      · refine z_aload_n (pc := 85) hR 0 dX10_bestTwo_85 rfl rfl ?_
        refine z_aload_n (pc := 86) hR 2 dX10_bestTwo_86 rfl rfl ?_
        refine z_iload (pc := 87) hR 6 dX10_bestTwo_87 rfl ?_
        refine z_iload (pc := 89) hR 7 dX10_bestTwo_89 rfl ?_
        refine z_callv0 (pc := 91) (rk' := 3) hR (As := [(2, a2), (0, x8), (0, x13)]) (st := []) jm_X10_tellTwo jl_RX10_68 hq (by decide) rfl (c_Ye_tellTwo N q a2 x8 x13 M14 hq ha2) rfl (by decide) (by decide) rfl (Nat.le_of_ble_eq_true rfl) dX10_bestTwo_91 (fun M16 => ?_)
        refine z_aload_n (pc := 94) hR 3 dX10_bestTwo_94 rfl rfl ?_
        refine z_aload_n (pc := 95) hR 0 dX10_bestTwo_95 rfl rfl ?_
        refine z_getr (pc := 96) hR (c0 := 2) (r := (q + 2)) jf_RX10_15 hq (by decide) rfl rfl dX10_bestTwo_96 ?_
        refine z_callv1 (pc := 99) hR (As := [(2, (q + 2))]) (st := []) jm_X5_worth jl_RX10_72 ha3 (by decide) rfl (by decide) (c_Ru_worth N a3 ((q + 2)) M16 ha3 (kf_10_words hq)) rfl (by decide) (by decide) rfl (Nat.le_of_ble_eq_true rfl) dX10_bestTwo_99 (fun r17 M18 => ?_)
        refine z_lstore (pc := 102) hR (lv' := [(9, 1, r17), (0, 2, q), (1, 2, 15), (2, 2, a2), (3, 2, a3), (4, 1, x11), (6, 0, x12), (7, 0, x8), (8, 0, x13)]) dX10_bestTwo_102 (by decide) rfl ?_
        refine z_lload (pc := 104) hR 0 dX10_bestTwo_104 rfl ?_
        refine z_lload (pc := 106) hR 5 dX10_bestTwo_106 rfl ?_
        refine z_lcmp (pc := 108) hR dX10_bestTwo_108 ?_
        refine z_ifle (pc := 109) (tgt := 126) hR dX10_bestTwo_109 (by decide) ?_ ?_
        · refine z_iinc (pc := 126) hR (j := 8) (lv' := [(8, 0, (w32 (x13 + 1))), (9, 1, r17), (0, 2, q), (1, 2, 15), (2, 2, a2), (3, 2, a3), (4, 1, x11), (6, 0, x12), (7, 0, x8)]) dX10_bestTwo_126 rfl (by decide) rfl ?_
          refine z_goto (pc := 129) (tgt := 61) hR dX10_bestTwo_129 (by decide) ?_
          refine z_pick (pc := 61) (lv' := [(0, 2, q), (1, 2, 15), (2, 2, a2), (3, 2, a3), (4, 1, x11), (6, 0, x12), (7, 0, x8), (8, 0, (w32 (x13 + 1)))]) hR [2, 3, 4, 5, 6, 7, 8, 0] rfl ?_
          exact hh61 (x11, x12, (w32 (x13 + 1)), M18)
        · refine z_lload (pc := 112) hR 0 dX10_bestTwo_112 rfl ?_
          refine z_lstore (pc := 114) hR (lv' := [(4, 1, r17), (9, 1, r17), (0, 2, q), (1, 2, 15), (2, 2, a2), (3, 2, a3), (6, 0, x12), (7, 0, x8), (8, 0, x13)]) dX10_bestTwo_114 (by decide) rfl ?_
          refine z_bipush (pc := 116) hR dX10_bestTwo_116 rfl ?_
          refine z_iload (pc := 118) hR 7 dX10_bestTwo_118 rfl ?_
          refine z_imul (pc := 120) hR dX10_bestTwo_120 ?_
          refine z_iload (pc := 121) hR 8 dX10_bestTwo_121 rfl ?_
          refine z_iadd (pc := 123) hR dX10_bestTwo_123 ?_
          refine z_let1 (fun v19 => ?_)
          refine z_istore (pc := 124) hR (lv' := [(6, 0, v19), (4, 1, r17), (9, 1, r17), (0, 2, q), (1, 2, 15), (2, 2, a2), (3, 2, a3), (7, 0, x8), (8, 0, x13)]) dX10_bestTwo_124 (by decide) rfl ?_
          refine z_iinc (pc := 126) hR (j := 8) (lv' := [(8, 0, (w32 (x13 + 1))), (6, 0, v19), (4, 1, r17), (9, 1, r17), (0, 2, q), (1, 2, 15), (2, 2, a2), (3, 2, a3), (7, 0, x8)]) dX10_bestTwo_126 rfl (by decide) rfl ?_
          refine z_goto (pc := 129) (tgt := 61) hR dX10_bestTwo_129 (by decide) ?_
          refine z_pick (pc := 61) (lv' := [(0, 2, q), (1, 2, 15), (2, 2, a2), (3, 2, a3), (4, 1, r17), (6, 0, v19), (7, 0, x8), (8, 0, (w32 (x13 + 1)))]) hR [4, 5, 6, 7, 2, 1, 8, 0] rfl ?_
          exact hh61 (r17, v19, (w32 (x13 + 1)), M18)
      · refine z_goto (pc := 82) (tgt := 126) hR dX10_bestTwo_82 (by decide) ?_
        refine z_iinc (pc := 126) hR (j := 7) (lv' := [(8, 0, (w32 (x13 + 1))), (0, 2, q), (1, 2, 15), (2, 2, a2), (3, 2, a3), (4, 1, x11), (6, 0, x12), (7, 0, x8)]) dX10_bestTwo_126 rfl (by decide) rfl ?_
        refine z_goto (pc := 129) (tgt := 61) hR dX10_bestTwo_129 (by decide) ?_
        refine z_pick (pc := 61) (lv' := [(0, 2, q), (1, 2, 15), (2, 2, a2), (3, 2, a3), (4, 1, x11), (6, 0, x12), (7, 0, x8), (8, 0, (w32 (x13 + 1)))]) hR [1, 2, 3, 4, 5, 6, 7, 0] rfl ?_
        exact hh61 (x11, x12, (w32 (x13 + 1)), M14)
