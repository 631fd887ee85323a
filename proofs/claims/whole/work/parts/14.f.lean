theorem dX1_farmThatParts_0 : decode cX1_farmThatParts 0 = .ok (.iconst 0, 1) := by decide +kernel
theorem dX1_farmThatParts_1 : decode cX1_farmThatParts 1 = .ok (.istore_n 3, 1) := by decide +kernel
theorem dX1_farmThatParts_2 : decode cX1_farmThatParts 2 = .ok (.aload_n 0, 1) := by decide +kernel
theorem dX1_farmThatParts_3 : decode cX1_farmThatParts 3 = .ok (.bipush 8, 2) := by decide +kernel
theorem dX1_farmThatParts_5 : decode cX1_farmThatParts 5 = .ok (.putfield 76, 3) := by decide +kernel
theorem dX1_farmThatParts_8 : decode cX1_farmThatParts 8 = .ok (.iconst 0, 1) := by decide +kernel
theorem dX1_farmThatParts_9 : decode cX1_farmThatParts 9 = .ok (.istore 4, 2) := by decide +kernel
theorem dX1_farmThatParts_11 : decode cX1_farmThatParts 11 = .ok (.iload 4, 2) := by decide +kernel
theorem dX1_farmThatParts_13 : decode cX1_farmThatParts 13 = .ok (.iload_n 1, 1) := by decide +kernel
theorem dX1_farmThatParts_14 : decode cX1_farmThatParts 14 = .ok (.if_icmp .ge 36, 3) := by decide +kernel
theorem dX1_farmThatParts_17 : decode cX1_farmThatParts 17 = .ok (.aload_n 0, 1) := by decide +kernel
theorem dX1_farmThatParts_18 : decode cX1_farmThatParts 18 = .ok (.iload 4, 2) := by decide +kernel
theorem dX1_farmThatParts_20 : decode cX1_farmThatParts 20 = .ok (.iload_n 2, 1) := by decide +kernel
theorem dX1_farmThatParts_21 : decode cX1_farmThatParts 21 = .ok (.invokevirtual 138, 3) := by decide +kernel
theorem dX1_farmThatParts_24 : decode cX1_farmThatParts 24 = .ok (.istore 5, 2) := by decide +kernel
theorem dX1_farmThatParts_26 : decode cX1_farmThatParts 26 = .ok (.iload 5, 2) := by decide +kernel
theorem dX1_farmThatParts_28 : decode cX1_farmThatParts 28 = .ok (.aload_n 0, 1) := by decide +kernel
theorem dX1_farmThatParts_29 : decode cX1_farmThatParts 29 = .ok (.getfield 76, 3) := by decide +kernel
theorem dX1_farmThatParts_32 : decode cX1_farmThatParts 32 = .ok (.if_icmp .ge 12, 3) := by decide +kernel
theorem dX1_farmThatParts_35 : decode cX1_farmThatParts 35 = .ok (.aload_n 0, 1) := by decide +kernel
theorem dX1_farmThatParts_36 : decode cX1_farmThatParts 36 = .ok (.iload 5, 2) := by decide +kernel
theorem dX1_farmThatParts_38 : decode cX1_farmThatParts 38 = .ok (.putfield 76, 3) := by decide +kernel
theorem dX1_farmThatParts_41 : decode cX1_farmThatParts 41 = .ok (.iload 4, 2) := by decide +kernel
theorem dX1_farmThatParts_43 : decode cX1_farmThatParts 43 = .ok (.istore_n 3, 1) := by decide +kernel
theorem dX1_farmThatParts_44 : decode cX1_farmThatParts 44 = .ok (.iinc 4 1, 3) := by decide +kernel
theorem dX1_farmThatParts_47 : decode cX1_farmThatParts 47 = .ok (.goto (-36), 3) := by decide +kernel
theorem dX1_farmThatParts_50 : decode cX1_farmThatParts 50 = .ok (.iload_n 3, 1) := by decide +kernel
theorem dX1_farmThatParts_51 : decode cX1_farmThatParts 51 = .ok (.ireturn, 1) := by decide +kernel
def Fo_farmThatParts_L11 (N : Nat) (a1 : Int) (a2 : Int) (h11 : (Int × Int × jMem) → Option (Int × jMem)) : Int × Int × jMem → Option (Int × jMem)
  | (x2, x3, M4) => (if x3 < a1 then (Fo_mostAlike N x3 a2 M4).bind fun r5 => (if r5 < (M4 157 6) then jlt (up M4 157 6 r5) fun M6 => h11 (x3, (w32 (x3 + 1)), M6) else h11 (x2, (w32 (x3 + 1)), M4)) else some (x2, M4))
def Fo_farmThatParts (N : Nat) (a1 a2 : Int) (M : jMem) : Option (Int × jMem) := jlt (up M 157 6 8) fun M1 => jfix N (Fo_farmThatParts_L11 N a1 a2) (0, 0, M1)
theorem c_Fo_farmThatParts {l : Launch} {g : jG} (N : Nat) (a1 a2 : Int) (M : jMem)  : ∀ o, Fo_farmThatParts N a1 a2 M = some o → jCt l g jTX yX1_farmThatParts cX1_farmThatParts 6 (some .int) 0 4 [(2, 157), (0, a1), (0, a2)] M o := by
  refine jMet (own := RX1) (em := id) (L := [(0, 2, 157), (1, 0, a1), (2, 0, a2)]) (by decide +kernel) rfl (Nat.le_of_ble_eq_true rfl) rfl (fun K hR => ?_)
  unfold Fo_farmThatParts
  refine z_iconst (pc := 0) hR dX1_farmThatParts_0 rfl ?_
  refine z_istore_n (pc := 1) hR (lv' := [(3, 0, 0), (0, 2, 157), (1, 0, a1), (2, 0, a2)]) dX1_farmThatParts_1 rfl (by decide) rfl ?_
  refine z_aload_n (pc := 2) hR 1 dX1_farmThatParts_2 rfl rfl ?_
  refine z_bipush (pc := 3) hR dX1_farmThatParts_3 rfl ?_
  refine z_puti (pc := 5) hR (j := 6) jp_RX1_76 kxo_157 (by decide) rfl rfl rfl rfl dX1_farmThatParts_5 (fun M1 => ?_)
  refine z_iconst (pc := 8) hR dX1_farmThatParts_8 rfl ?_
  refine z_istore (pc := 9) hR (lv' := [(4, 0, 0), (3, 0, 0), (0, 2, 157), (1, 0, a1), (2, 0, a2)]) dX1_farmThatParts_9 (by decide) rfl ?_
  refine z_pick (pc := 11) (lv' := [(0, 2, 157), (1, 0, a1), (2, 0, a2), (3, 0, 0), (4, 0, 0)]) hR [2, 3, 4, 1, 0] rfl ?_
  refine z_fix (σ := Int × Int × jMem) (lv := fun s => [(0, 2, 157), (1, 0, a1), (2, 0, a2), (3, 0, s.1), (4, 0, s.2.1)]) (st := fun _ => []) (M := fun s => s.2.2) (fun h11 hh11 => ?_) N (0, 0, M1)
  rintro ⟨x2, x3, M4⟩
  show jZ K id 11 [(0, 2, 157), (1, 0, a1), (2, 0, a2), (3, 0, x2), (4, 0, x3)] [] M4 _
  unfold Fo_farmThatParts_L11
  refine z_iload (pc := 11) hR 4 dX1_farmThatParts_11 rfl ?_
  refine z_iload_n (pc := 13) hR 1 dX1_farmThatParts_13 rfl rfl ?_
  refine z_icmpge (pc := 14) (tgt := 50) hR dX1_farmThatParts_14 (by decide) ?_ ?_
  · refine z_iload_n (pc := 50) hR 3 dX1_farmThatParts_50 rfl rfl ?_
    exact z_ireturn (pc := 51) hR rfl rfl dX1_farmThatParts_51 rfl
  · refine z_aload_n (pc := 17) hR 0 dX1_farmThatParts_17 rfl rfl ?_
    refine z_iload (pc := 18) hR 4 dX1_farmThatParts_18 rfl ?_
    refine z_iload_n (pc := 20) hR 2 dX1_farmThatParts_20 rfl rfl ?_
    refine z_callvp (pc := 21) hR (As := [(0, x3), (0, a2)]) (st := []) jm_X1_mostAlike jl_RX1_138 kxo_157 (by decide) rfl (by decide) (c_Fo_mostAlike N x3 a2 M4) rfl (by decide) (by decide) rfl (Nat.le_of_ble_eq_true rfl) dX1_farmThatParts_21 (fun r5 => ?_)
    refine z_istore (pc := 24) hR (lv' := [(5, 0, r5), (0, 2, 157), (1, 0, a1), (2, 0, a2), (3, 0, x2), (4, 0, x3)]) dX1_farmThatParts_24 (by decide) rfl ?_
    refine z_iload (pc := 26) hR 0 dX1_farmThatParts_26 rfl ?_
    refine z_aload_n (pc := 28) hR 1 dX1_farmThatParts_28 rfl rfl ?_
    refine z_geti (pc := 29) hR (j := 6) jf_RX1_76 kxo_157 (by decide) rfl rfl dX1_farmThatParts_29 ?_
    refine z_icmpge (pc := 32) (tgt := 44) hR dX1_farmThatParts_32 (by decide) ?_ ?_
    · refine z_iinc (pc := 44) hR (j := 5) (lv' := [(4, 0, (w32 (x3 + 1))), (5, 0, r5), (0, 2, 157), (1, 0, a1), (2, 0, a2), (3, 0, x2)]) dX1_farmThatParts_44 rfl (by decide) rfl ?_
      refine z_goto (pc := 47) (tgt := 11) hR dX1_farmThatParts_47 (by decide) ?_
      refine z_pick (pc := 11) (lv' := [(0, 2, 157), (1, 0, a1), (2, 0, a2), (3, 0, x2), (4, 0, (w32 (x3 + 1)))]) hR [2, 3, 4, 5, 0] rfl ?_
      exact hh11 (x2, (w32 (x3 + 1)), M4)
    · refine z_aload_n (pc := 35) hR 1 dX1_farmThatParts_35 rfl rfl ?_
      refine z_iload (pc := 36) hR 0 dX1_farmThatParts_36 rfl ?_
      refine z_puti (pc := 38) hR (j := 6) jp_RX1_76 kxo_157 (by decide) rfl rfl rfl rfl dX1_farmThatParts_38 (fun M6 => ?_)
      refine z_iload (pc := 41) hR 5 dX1_farmThatParts_41 rfl ?_
      refine z_istore_n (pc := 43) hR (lv' := [(3, 0, x3), (5, 0, r5), (0, 2, 157), (1, 0, a1), (2, 0, a2), (4, 0, x3)]) dX1_farmThatParts_43 rfl (by decide) rfl ?_
      refine z_iinc (pc := 44) hR (j := 5) (lv' := [(4, 0, (w32 (x3 + 1))), (3, 0, x3), (5, 0, r5), (0, 2, 157), (1, 0, a1), (2, 0, a2)]) dX1_farmThatParts_44 rfl (by decide) rfl ?_
      refine z_goto (pc := 47) (tgt := 11) hR dX1_farmThatParts_47 (by decide) ?_
      refine z_pick (pc := 11) (lv' := [(0, 2, 157), (1, 0, a1), (2, 0, a2), (3, 0, x3), (4, 0, (w32 (x3 + 1)))]) hR [3, 4, 5, 1, 0] rfl ?_
      exact hh11 (x3, (w32 (x3 + 1)), M6)
theorem dX11_look_0 : decode cX11_look 0 = .ok (.iload_n 1, 1) := by decide +kernel
theorem dX11_look_1 : decode cX11_look 1 = .ok (.iconst 0, 1) := by decide +kernel
theorem dX11_look_2 : decode cX11_look 2 = .ok (.bipush 60, 2) := by decide +kernel
theorem dX11_look_4 : decode cX11_look 4 = .ok (.invokestatic 137, 3) := by decide +kernel
theorem dX11_look_7 : decode cX11_look 7 = .ok (.ifCond .eq 19, 3) := by decide +kernel
theorem dX11_look_10 : decode cX11_look 10 = .ok (.iload_n 2, 1) := by decide +kernel
theorem dX11_look_11 : decode cX11_look 11 = .ok (.iconst 0, 1) := by decide +kernel
theorem dX11_look_12 : decode cX11_look 12 = .ok (.iconst 1, 1) := by decide +kernel
theorem dX11_look_13 : decode cX11_look 13 = .ok (.invokestatic 137, 3) := by decide +kernel
theorem dX11_look_16 : decode cX11_look 16 = .ok (.ifCond .eq 10, 3) := by decide +kernel
theorem dX11_look_19 : decode cX11_look 19 = .ok (.aload_n 0, 1) := by decide +kernel
theorem dX11_look_20 : decode cX11_look 20 = .ok (.invokevirtual 177, 3) := by decide +kernel
theorem dX11_look_23 : decode cX11_look 23 = .ok (.ifCond .ne 5, 3) := by decide +kernel
theorem dX11_look_26 : decode cX11_look 26 = .ok (.iconst (-1), 1) := by decide +kernel
theorem dX11_look_27 : decode cX11_look 27 = .ok (.ireturn, 1) := by decide +kernel
theorem dX11_look_28 : decode cX11_look 28 = .ok (.aload_n 0, 1) := by decide +kernel
theorem dX11_look_29 : decode cX11_look 29 = .ok (.getfield 68, 3) := by decide +kernel
theorem dX11_look_32 : decode cX11_look 32 = .ok (.aload_n 0, 1) := by decide +kernel
theorem dX11_look_33 : decode cX11_look 33 = .ok (.getfield 43, 3) := by decide +kernel
theorem dX11_look_36 : decode cX11_look 36 = .ok (.aload_n 0, 1) := by decide +kernel
theorem dX11_look_37 : decode cX11_look 37 = .ok (.getfield 36, 3) := by decide +kernel
theorem dX11_look_40 : decode cX11_look 40 = .ok (.aload_n 0, 1) := by decide +kernel
theorem dX11_look_41 : decode cX11_look 41 = .ok (.getfield 126, 3) := by decide +kernel
theorem dX11_look_44 : decode cX11_look 44 = .ok (.invokevirtual 310, 3) := by decide +kernel
theorem dX11_look_47 : decode cX11_look 47 = .ok (.istore_n 3, 1) := by decide +kernel
theorem dX11_look_48 : decode cX11_look 48 = .ok (.iload_n 3, 1) := by decide +kernel
theorem dX11_look_49 : decode cX11_look 49 = .ok (.ifCond .ne 6, 3) := by decide +kernel
theorem dX11_look_52 : decode cX11_look 52 = .ok (.bipush (-2), 2) := by decide +kernel
theorem dX11_look_54 : decode cX11_look 54 = .ok (.ireturn, 1) := by decide +kernel
theorem dX11_look_55 : decode cX11_look 55 = .ok (.aload_n 0, 1) := by decide +kernel
theorem dX11_look_56 : decode cX11_look 56 = .ok (.getfield 68, 3) := by decide +kernel
theorem dX11_look_59 : decode cX11_look 59 = .ok (.aload_n 0, 1) := by decide +kernel
theorem dX11_look_60 : decode cX11_look 60 = .ok (.getfield 43, 3) := by decide +kernel
theorem dX11_look_63 : decode cX11_look 63 = .ok (.aload_n 0, 1) := by decide +kernel
theorem dX11_look_64 : decode cX11_look 64 = .ok (.getfield 36, 3) := by decide +kernel
theorem dX11_look_67 : decode cX11_look 67 = .ok (.iload_n 3, 1) := by decide +kernel
theorem dX11_look_68 : decode cX11_look 68 = .ok (.iload_n 1, 1) := by decide +kernel
theorem dX11_look_69 : decode cX11_look 69 = .ok (.invokevirtual 322, 3) := by decide +kernel
theorem dX11_look_72 : decode cX11_look 72 = .ok (.aload_n 0, 1) := by decide +kernel
theorem dX11_look_73 : decode cX11_look 73 = .ok (.getfield 68, 3) := by decide +kernel
theorem dX11_look_76 : decode cX11_look 76 = .ok (.aload_n 0, 1) := by decide +kernel
theorem dX11_look_77 : decode cX11_look 77 = .ok (.getfield 43, 3) := by decide +kernel
theorem dX11_look_80 : decode cX11_look 80 = .ok (.getfield 95, 3) := by decide +kernel
theorem dX11_look_83 : decode cX11_look 83 = .ok (.getfield 123, 3) := by decide +kernel
theorem dX11_look_86 : decode cX11_look 86 = .ok (.iload_n 3, 1) := by decide +kernel
theorem dX11_look_87 : decode cX11_look 87 = .ok (.invokevirtual 326, 3) := by decide +kernel
theorem dX11_look_90 : decode cX11_look 90 = .ok (.istore 4, 2) := by decide +kernel
theorem dX11_look_92 : decode cX11_look 92 = .ok (.iload_n 2, 1) := by decide +kernel
theorem dX11_look_93 : decode cX11_look 93 = .ok (.ifCond .ne 8, 3) := by decide +kernel
theorem dX11_look_96 : decode cX11_look 96 = .ok (.iload 4, 2) := by decide +kernel
theorem dX11_look_98 : decode cX11_look 98 = .ok (.goto 10, 3) := by decide +kernel
theorem dX11_look_101 : decode cX11_look 101 = .ok (.aload_n 0, 1) := by decide +kernel
theorem dX11_look_102 : decode cX11_look 102 = .ok (.getfield 68, 3) := by decide +kernel
theorem dX11_look_105 : decode cX11_look 105 = .ok (.getfield 289, 3) := by decide +kernel
theorem dX11_look_108 : decode cX11_look 108 = .ok (.ireturn, 1) := by decide +kernel
def x_look (N : Nat) (a1 a2 : Int) (M : jMem) : Option (Int × jMem) := (x_isWithin N a1 0 60 M).bind fun r1 => (if r1 = 0 then some ((-1), M) else (x_isWithin N a2 0 1 M).bind fun r2 => (if r2 = 0 then some ((-1), M) else (x_hasParish N M).bind fun r3 => (if r3 = 0 then some ((-1), M) else jb1 (Fo_ruledBits N ((M 0 6)) M) fun r4 M5 => (if r4 = 0 then some ((-2), M5) else jbv (Fo_tasteAll N r4 a1 M5) fun M6 => jb1 (Fo_farmThatParts N ((M6 15 0)) r4 M6) fun r7 M8 => (if a2 = 0 then some (r7, M8) else some ((M8 157 6), M8))))))
theorem c_x_look {l : Launch} {g : jG} (N : Nat) (a1 a2 : Int) (M : jMem)  : ∀ o, x_look N a1 a2 M = some o → jCt l g jTX yX11_look cX11_look 5 (some .int) 0 15 [(2, 0), (0, a1), (0, a2)] M o := by
  refine jMet (own := RX11) (em := id) (L := [(0, 2, 0), (1, 0, a1), (2, 0, a2)]) (by decide +kernel) rfl (Nat.le_of_ble_eq_true rfl) rfl (fun K hR => ?_)
  unfold x_look
  refine z_iload_n (pc := 0) hR 1 dX11_look_0 rfl rfl ?_
  refine z_iconst (pc := 1) hR dX11_look_1 rfl ?_
  refine z_bipush (pc := 2) hR dX11_look_2 rfl ?_
  refine z_callsp (pc := 4) hR (As := [(0, a1), (0, 0), (0, 60)]) (st := []) jm_X11_isWithin jl_RX11_137 (by decide) (c_x_isWithin N a1 0 60 M) rfl (by decide) (by decide) rfl (Nat.le_of_ble_eq_true rfl) dX11_look_4 (fun r1 => ?_)
  refine z_ifeq (pc := 7) (tgt := 26) hR dX11_look_7 (by decide) ?_ ?_
  · refine z_iconst (pc := 26) hR dX11_look_26 rfl ?_
    exact z_ireturn (pc := 27) hR rfl rfl dX11_look_27 rfl
  · refine z_iload_n (pc := 10) hR 2 dX11_look_10 rfl rfl ?_
    refine z_iconst (pc := 11) hR dX11_look_11 rfl ?_
    refine z_iconst (pc := 12) hR dX11_look_12 rfl ?_
    refine z_callsp (pc := 13) hR (As := [(0, a2), (0, 0), (0, 1)]) (st := []) jm_X11_isWithin jl_RX11_137 (by decide) (c_x_isWithin N a2 0 1 M) rfl (by decide) (by decide) rfl (Nat.le_of_ble_eq_true rfl) dX11_look_13 (fun r2 => ?_)
    refine z_ifeq (pc := 16) (tgt := 26) hR dX11_look_16 (by decide) ?_ ?_
    · refine z_iconst (pc := 26) hR dX11_look_26 rfl ?_
      exact z_ireturn (pc := 27) hR rfl rfl dX11_look_27 rfl
    · refine z_aload_n (pc := 19) hR 0 dX11_look_19 rfl rfl ?_
      refine z_callvp (pc := 20) hR (As := []) (st := []) jm_X11_hasParish jl_RX11_177 kxo_0 (by decide) rfl (by decide) (c_x_hasParish N M) rfl (by decide) (by decide) rfl (Nat.le_of_ble_eq_true rfl) dX11_look_20 (fun r3 => ?_)
      refine z_ifne (pc := 23) (tgt := 28) hR dX11_look_23 (by decide) ?_ ?_
      · refine z_aload_n (pc := 28) hR 0 dX11_look_28 rfl rfl ?_
        refine z_getr (pc := 29) hR (c0 := 157) (r := 157) jf_RX11_68 kxo_0 (by decide) rfl rfl dX11_look_29 ?_
        refine z_aload_n (pc := 32) hR 0 dX11_look_32 rfl rfl ?_
        refine z_getr (pc := 33) hR (c0 := 14) (r := 14) jf_RX11_43 kxo_0 (by decide) rfl rfl dX11_look_33 ?_
        refine z_aload_n (pc := 36) hR 0 dX11_look_36 rfl rfl ?_
        refine z_getr (pc := 37) hR (c0 := 13) (r := 13) jf_RX11_36 kxo_0 (by decide) rfl rfl dX11_look_37 ?_
        refine z_aload_n (pc := 40) hR 0 dX11_look_40 rfl rfl ?_
        refine z_geti (pc := 41) hR (j := 6) jf_RX11_126 kxo_0 (by decide) rfl rfl dX11_look_41 ?_
        refine z_callv1 (pc := 44) hR (As := [(2, 14), (2, 13), (0, (M 0 6))]) (st := []) jm_X1_ruledBits jl_RX11_310 kxo_157 (by decide) rfl (by decide) (c_Fo_ruledBits N ((M 0 6)) M) rfl (by decide) (by decide) rfl (Nat.le_of_ble_eq_true rfl) dX11_look_44 (fun r4 M5 => ?_)
        refine z_istore_n (pc := 47) hR (lv' := [(3, 0, r4), (0, 2, 0), (1, 0, a1), (2, 0, a2)]) dX11_look_47 rfl (by decide) rfl ?_
        refine z_iload_n (pc := 48) hR 0 dX11_look_48 rfl rfl ?_
        refine z_ifne (pc := 49) (tgt := 55) hR dX11_look_49 (by decide) ?_ ?_
        · refine z_aload_n (pc := 55) hR 1 dX11_look_55 rfl rfl ?_
          refine z_getr (pc := 56) hR (c0 := 157) (r := 157) jf_RX11_68 kxo_0 (by decide) rfl rfl dX11_look_56 ?_
          refine z_aload_n (pc := 59) hR 1 dX11_look_59 rfl rfl ?_
          refine z_getr (pc := 60) hR (c0 := 14) (r := 14) jf_RX11_43 kxo_0 (by decide) rfl rfl dX11_look_60 ?_
          refine z_aload_n (pc := 63) hR 1 dX11_look_63 rfl rfl ?_
          refine z_getr (pc := 64) hR (c0 := 13) (r := 13) jf_RX11_36 kxo_0 (by decide) rfl rfl dX11_look_64 ?_
          refine z_iload_n (pc := 67) hR 0 dX11_look_67 rfl rfl ?_
          refine z_iload_n (pc := 68) hR 2 dX11_look_68 rfl rfl ?_
          refine z_callv0 (pc := 69) (rk' := 3) hR (As := [(2, 14), (2, 13), (0, r4), (0, a1)]) (st := []) jm_X1_tasteAll jl_RX11_322 kxo_157 (by decide) rfl (c_Fo_tasteAll N r4 a1 M5) rfl (by decide) (by decide) rfl (Nat.le_of_ble_eq_true rfl) dX11_look_69 (fun M6 => ?_)
          refine z_aload_n (pc := 72) hR 1 dX11_look_72 rfl rfl ?_
          refine z_getr (pc := 73) hR (c0 := 157) (r := 157) jf_RX11_68 kxo_0 (by decide) rfl rfl dX11_look_73 ?_
          refine z_aload_n (pc := 76) hR 1 dX11_look_76 rfl rfl ?_
          refine z_getr (pc := 77) hR (c0 := 14) (r := 14) jf_RX11_43 kxo_0 (by decide) rfl rfl dX11_look_77 ?_
          refine z_getr (pc := 80) hR (c0 := 1) (r := 15) jf_RX11_95 kxo_14 (by decide) rfl rfl dX11_look_80 ?_
          refine z_geti (pc := 83) hR (j := 0) jf_RX11_123 kxo_15 (by decide) rfl rfl dX11_look_83 ?_
          refine z_iload_n (pc := 86) hR 0 dX11_look_86 rfl rfl ?_
          refine z_callv1 (pc := 87) hR (As := [(0, (M6 15 0)), (0, r4)]) (st := []) jm_X1_farmThatParts jl_RX11_326 kxo_157 (by decide) rfl (by decide) (c_Fo_farmThatParts N ((M6 15 0)) r4 M6) rfl (by decide) (by decide) rfl (Nat.le_of_ble_eq_true rfl) dX11_look_87 (fun r7 M8 => ?_)
          refine z_istore (pc := 90) hR (lv' := [(4, 0, r7), (3, 0, r4), (0, 2, 0), (1, 0, a1), (2, 0, a2)]) dX11_look_90 (by decide) rfl ?_
          refine z_iload_n (pc := 92) hR 4 dX11_look_92 rfl rfl ?_
          refine z_ifne (pc := 93) (tgt := 101) hR dX11_look_93 (by decide) ?_ ?_
          · refine z_aload_n (pc := 101) hR 2 dX11_look_101 rfl rfl ?_
            refine z_getr (pc := 102) hR (c0 := 157) (r := 157) jf_RX11_68 kxo_0 (by decide) rfl rfl dX11_look_102 ?_
            refine z_geti (pc := 105) hR (j := 6) jf_RX11_289 kxo_157 (by decide) rfl rfl dX11_look_105 ?_
            exact z_ireturn (pc := 108) hR rfl rfl dX11_look_108 rfl
          · refine z_iload (pc := 96) hR 0 dX11_look_96 rfl ?_
            refine z_goto (pc := 98) (tgt := 108) hR dX11_look_98 (by decide) ?_
            exact z_ireturn (pc := 108) hR rfl rfl dX11_look_108 rfl
        · refine z_bipush (pc := 52) hR dX11_look_52 rfl ?_
          exact z_ireturn (pc := 54) hR rfl rfl dX11_look_54 rfl
      · refine z_iconst (pc := 26) hR dX11_look_26 rfl ?_
        exact z_ireturn (pc := 27) hR rfl rfl dX11_look_27 rfl
theorem dX11_seed_0 : decode cX11_seed 0 = .ok (.iload_n 1, 1) := by decide +kernel
theorem dX11_seed_1 : decode cX11_seed 1 = .ok (.ifCond .ge 5, 3) := by decide +kernel
theorem dX11_seed_4 : decode cX11_seed 4 = .ok (.iconst (-1), 1) := by decide +kernel
theorem dX11_seed_5 : decode cX11_seed 5 = .ok (.ireturn, 1) := by decide +kernel
theorem dX11_seed_6 : decode cX11_seed 6 = .ok (.aload_n 0, 1) := by decide +kernel
theorem dX11_seed_7 : decode cX11_seed 7 = .ok (.getfield 43, 3) := by decide +kernel
theorem dX11_seed_10 : decode cX11_seed 10 = .ok (.getfield 208, 3) := by decide +kernel
theorem dX11_seed_13 : decode cX11_seed 13 = .ok (.istore_n 2, 1) := by decide +kernel
theorem dX11_seed_14 : decode cX11_seed 14 = .ok (.aload_n 0, 1) := by decide +kernel
theorem dX11_seed_15 : decode cX11_seed 15 = .ok (.getfield 43, 3) := by decide +kernel
theorem dX11_seed_18 : decode cX11_seed 18 = .ok (.iload_n 1, 1) := by decide +kernel
theorem dX11_seed_19 : decode cX11_seed 19 = .ok (.putfield 208, 3) := by decide +kernel
theorem dX11_seed_22 : decode cX11_seed 22 = .ok (.iload_n 2, 1) := by decide +kernel
theorem dX11_seed_23 : decode cX11_seed 23 = .ok (.ireturn, 1) := by decide +kernel
def x_seed (N : Nat) (a1 : Int) (M : jMem) : Option (Int × jMem) := (if a1 < 0 then some ((-1), M) else jlt ((M 14 4)) fun v1 => jlt (up M 14 4 a1) fun M2 => some (v1, M2))
theorem c_x_seed {l : Launch} {g : jG} (N : Nat) (a1 : Int) (M : jMem)  : ∀ o, x_seed N a1 M = some o → jCt l g jTX yX11_seed cX11_seed 3 (some .int) 0 1 [(2, 0), (0, a1)] M o := by
  refine jMet (own := RX11) (em := id) (L := [(0, 2, 0), (1, 0, a1)]) (by decide +kernel) rfl (Nat.le_of_ble_eq_true rfl) rfl (fun K hR => ?_)
  unfold x_seed
  refine z_iload_n (pc := 0) hR 1 dX11_seed_0 rfl rfl ?_
  refine z_ifge (pc := 1) (tgt := 6) hR dX11_seed_1 (by decide) ?_ ?_
  · refine z_aload_n (pc := 6) hR 0 dX11_seed_6 rfl rfl ?_
    refine z_getr (pc := 7) hR (c0 := 14) (r := 14) jf_RX11_43 kxo_0 (by decide) rfl rfl dX11_seed_7 ?_
    refine z_geti (pc := 10) hR (j := 4) jf_RX11_208 kxo_14 (by decide) rfl rfl dX11_seed_10 ?_
    refine z_let1 (fun v1 => ?_)
    refine z_istore_n (pc := 13) hR (lv' := [(2, 0, v1), (0, 2, 0), (1, 0, a1)]) dX11_seed_13 rfl (by decide) rfl ?_
    refine z_aload_n (pc := 14) hR 1 dX11_seed_14 rfl rfl ?_
    refine z_getr (pc := 15) hR (c0 := 14) (r := 14) jf_RX11_43 kxo_0 (by decide) rfl rfl dX11_seed_15 ?_
    refine z_iload_n (pc := 18) hR 2 dX11_seed_18 rfl rfl ?_
    refine z_puti (pc := 19) hR (j := 4) jp_RX11_208 kxo_14 (by decide) rfl rfl rfl rfl dX11_seed_19 (fun M2 => ?_)
    refine z_iload_n (pc := 22) hR 0 dX11_seed_22 rfl rfl ?_
    exact z_ireturn (pc := 23) hR rfl rfl dX11_seed_23 rfl
  · refine z_iconst (pc := 4) hR dX11_seed_4 rfl ?_
    exact z_ireturn (pc := 5) hR rfl rfl dX11_seed_5 rfl
theorem dX1_nextDraw_0 : decode cX1_nextDraw 0 = .ok (.aload_n 0, 1) := by decide +kernel
theorem dX1_nextDraw_1 : decode cX1_nextDraw 1 = .ok (.aload_n 0, 1) := by decide +kernel
theorem dX1_nextDraw_2 : decode cX1_nextDraw 2 = .ok (.getfield 147, 3) := by decide +kernel
theorem dX1_nextDraw_5 : decode cX1_nextDraw 5 = .ok (.i2l, 1) := by decide +kernel
theorem dX1_nextDraw_6 : decode cX1_nextDraw 6 = .ok (.ldc2_w 150, 3) := by decide +kernel
theorem dX1_nextDraw_9 : decode cX1_nextDraw 9 = .ok (.lmul, 1) := by decide +kernel
theorem dX1_nextDraw_10 : decode cX1_nextDraw 10 = .ok (.ldc2_w 152, 3) := by decide +kernel
theorem dX1_nextDraw_13 : decode cX1_nextDraw 13 = .ok (.ladd, 1) := by decide +kernel
theorem dX1_nextDraw_14 : decode cX1_nextDraw 14 = .ok (.ldc2_w 154, 3) := by decide +kernel
theorem dX1_nextDraw_17 : decode cX1_nextDraw 17 = .ok (.land, 1) := by decide +kernel
theorem dX1_nextDraw_18 : decode cX1_nextDraw 18 = .ok (.l2i, 1) := by decide +kernel
theorem dX1_nextDraw_19 : decode cX1_nextDraw 19 = .ok (.putfield 147, 3) := by decide +kernel
theorem dX1_nextDraw_22 : decode cX1_nextDraw 22 = .ok (.aload_n 0, 1) := by decide +kernel
theorem dX1_nextDraw_23 : decode cX1_nextDraw 23 = .ok (.getfield 147, 3) := by decide +kernel
theorem dX1_nextDraw_26 : decode cX1_nextDraw 26 = .ok (.ldc 156, 2) := by decide +kernel
theorem dX1_nextDraw_28 : decode cX1_nextDraw 28 = .ok (.idiv, 1) := by decide +kernel
theorem dX1_nextDraw_29 : decode cX1_nextDraw 29 = .ok (.ireturn, 1) := by decide +kernel
def Fo_nextDraw (N : Nat) (M : jMem) : Option (Int × jMem) := jlt (up M 157 7 ((w32 ((jlan ((w64 (((w64 (((M 157 7)) * 1103515245))) + 12345))) 2147483647))))) fun M1 => some ((w32 (((M1 157 7)).tdiv 65536)), M1)
theorem c_Fo_nextDraw {l : Launch} {g : jG} (N : Nat) (M : jMem)  : ∀ o, Fo_nextDraw N  M = some o → jCt l g jTX yX1_nextDraw cX1_nextDraw 1 (some .int) 0 1 [(2, 157)] M o := by
  refine jMet (own := RX1) (em := id) (L := [(0, 2, 157)]) (by decide +kernel) rfl (Nat.le_of_ble_eq_true rfl) rfl (fun K hR => ?_)
  unfold Fo_nextDraw
  refine z_aload_n (pc := 0) hR 0 dX1_nextDraw_0 rfl rfl ?_
  refine z_aload_n (pc := 1) hR 0 dX1_nextDraw_1 rfl rfl ?_
  refine z_geti (pc := 2) hR (j := 7) jf_RX1_147 kxo_157 (by decide) rfl rfl dX1_nextDraw_2 ?_
  refine z_i2l (pc := 5) hR dX1_nextDraw_5 ?_
  refine z_ldc2 (pc := 6) hR (n := 1103515245) jc_RX1_150 (by decide) rfl dX1_nextDraw_6 ?_
  refine z_lmul (pc := 9) hR dX1_nextDraw_9 ?_
  refine z_ldc2 (pc := 10) hR (n := 12345) jc_RX1_152 (by decide) rfl dX1_nextDraw_10 ?_
  refine z_ladd (pc := 13) hR dX1_nextDraw_13 ?_
  refine z_ldc2 (pc := 14) hR (n := 2147483647) jc_RX1_154 (by decide) rfl dX1_nextDraw_14 ?_
  refine z_land (pc := 17) hR dX1_nextDraw_17 ?_
  refine z_l2i (pc := 18) hR dX1_nextDraw_18 ?_
  refine z_puti (pc := 19) hR (j := 7) jp_RX1_147 kxo_157 (by decide) rfl rfl rfl rfl dX1_nextDraw_19 (fun M1 => ?_)
  refine z_aload_n (pc := 22) hR 0 dX1_nextDraw_22 rfl rfl ?_
  refine z_geti (pc := 23) hR (j := 7) jf_RX1_147 kxo_157 (by decide) rfl rfl dX1_nextDraw_23 ?_
  refine z_ldc (pc := 26) hR (n := 65536) jc_RX1_156 (by decide) rfl dX1_nextDraw_26 ?_
  refine z_idiv (pc := 28) hR dX1_nextDraw_28 (by decide) ?_
  exact z_ireturn (pc := 29) hR rfl rfl dX1_nextDraw_29 rfl
theorem dX1_afterDroughts_0 : decode cX1_afterDroughts 0 = .ok (.aload_n 0, 1) := by decide +kernel
theorem dX1_afterDroughts_1 : decode cX1_afterDroughts 1 = .ok (.getfield 21, 3) := by decide +kernel
theorem dX1_afterDroughts_4 : decode cX1_afterDroughts 4 = .ok (.aload_n 1, 1) := by decide +kernel
theorem dX1_afterDroughts_5 : decode cX1_afterDroughts 5 = .ok (.getfield 45, 3) := by decide +kernel
theorem dX1_afterDroughts_8 : decode cX1_afterDroughts 8 = .ok (.invokevirtual 50, 3) := by decide +kernel
theorem dX1_afterDroughts_11 : decode cX1_afterDroughts 11 = .ok (.iconst 0, 1) := by decide +kernel
theorem dX1_afterDroughts_12 : decode cX1_afterDroughts 12 = .ok (.istore 5, 2) := by decide +kernel
theorem dX1_afterDroughts_14 : decode cX1_afterDroughts 14 = .ok (.iload 5, 2) := by decide +kernel
theorem dX1_afterDroughts_16 : decode cX1_afterDroughts 16 = .ok (.iload_n 3, 1) := by decide +kernel
theorem dX1_afterDroughts_17 : decode cX1_afterDroughts 17 = .ok (.if_icmp .ge 70, 3) := by decide +kernel
theorem dX1_afterDroughts_20 : decode cX1_afterDroughts 20 = .ok (.aload_n 0, 1) := by decide +kernel
theorem dX1_afterDroughts_21 : decode cX1_afterDroughts 21 = .ok (.invokevirtual 157, 3) := by decide +kernel
theorem dX1_afterDroughts_24 : decode cX1_afterDroughts 24 = .ok (.bipush 100, 2) := by decide +kernel
theorem dX1_afterDroughts_26 : decode cX1_afterDroughts 26 = .ok (.irem, 1) := by decide +kernel
theorem dX1_afterDroughts_27 : decode cX1_afterDroughts 27 = .ok (.iload 4, 2) := by decide +kernel
theorem dX1_afterDroughts_29 : decode cX1_afterDroughts 29 = .ok (.if_icmp .ge 42, 3) := by decide +kernel
theorem dX1_afterDroughts_32 : decode cX1_afterDroughts 32 = .ok (.aload_n 0, 1) := by decide +kernel
theorem dX1_afterDroughts_33 : decode cX1_afterDroughts 33 = .ok (.getfield 21, 3) := by decide +kernel
theorem dX1_afterDroughts_36 : decode cX1_afterDroughts 36 = .ok (.getfield 73, 3) := by decide +kernel
theorem dX1_afterDroughts_39 : decode cX1_afterDroughts 39 = .ok (.ifCond .le 32, 3) := by decide +kernel
theorem dX1_afterDroughts_42 : decode cX1_afterDroughts 42 = .ok (.aload_n 0, 1) := by decide +kernel
theorem dX1_afterDroughts_43 : decode cX1_afterDroughts 43 = .ok (.getfield 21, 3) := by decide +kernel
theorem dX1_afterDroughts_46 : decode cX1_afterDroughts 46 = .ok (.getfield 104, 3) := by decide +kernel
theorem dX1_afterDroughts_49 : decode cX1_afterDroughts 49 = .ok (.aload_n 0, 1) := by decide +kernel
theorem dX1_afterDroughts_50 : decode cX1_afterDroughts 50 = .ok (.getfield 21, 3) := by decide +kernel
theorem dX1_afterDroughts_53 : decode cX1_afterDroughts 53 = .ok (.getfield 124, 3) := by decide +kernel
theorem dX1_afterDroughts_56 : decode cX1_afterDroughts 56 = .ok (.aload_n 0, 1) := by decide +kernel
theorem dX1_afterDroughts_57 : decode cX1_afterDroughts 57 = .ok (.invokevirtual 157, 3) := by decide +kernel
theorem dX1_afterDroughts_60 : decode cX1_afterDroughts 60 = .ok (.aload_n 0, 1) := by decide +kernel
theorem dX1_afterDroughts_61 : decode cX1_afterDroughts 61 = .ok (.getfield 21, 3) := by decide +kernel
theorem dX1_afterDroughts_64 : decode cX1_afterDroughts 64 = .ok (.getfield 73, 3) := by decide +kernel
theorem dX1_afterDroughts_67 : decode cX1_afterDroughts 67 = .ok (.irem, 1) := by decide +kernel
theorem dX1_afterDroughts_68 : decode cX1_afterDroughts 68 = .ok (.iaload, 1) := by decide +kernel
theorem dX1_afterDroughts_69 : decode cX1_afterDroughts 69 = .ok (.iconst 0, 1) := by decide +kernel
theorem dX1_afterDroughts_70 : decode cX1_afterDroughts 70 = .ok (.iastore, 1) := by decide +kernel
theorem dX1_afterDroughts_71 : decode cX1_afterDroughts 71 = .ok (.aload_n 0, 1) := by decide +kernel
theorem dX1_afterDroughts_72 : decode cX1_afterDroughts 72 = .ok (.aload_n 1, 1) := by decide +kernel
theorem dX1_afterDroughts_73 : decode cX1_afterDroughts 73 = .ok (.getfield 54, 3) := by decide +kernel
theorem dX1_afterDroughts_76 : decode cX1_afterDroughts 76 = .ok (.aload_n 2, 1) := by decide +kernel
theorem dX1_afterDroughts_77 : decode cX1_afterDroughts 77 = .ok (.iconst 1, 1) := by decide +kernel
theorem dX1_afterDroughts_78 : decode cX1_afterDroughts 78 = .ok (.invokevirtual 58, 3) := by decide +kernel
theorem dX1_afterDroughts_81 : decode cX1_afterDroughts 81 = .ok (.iinc 5 1, 3) := by decide +kernel
theorem dX1_afterDroughts_84 : decode cX1_afterDroughts 84 = .ok (.goto (-70), 3) := by decide +kernel
theorem dX1_afterDroughts_87 : decode cX1_afterDroughts 87 = .ok (.aload_n 0, 1) := by decide +kernel
theorem dX1_afterDroughts_88 : decode cX1_afterDroughts 88 = .ok (.getfield 21, 3) := by decide +kernel
theorem dX1_afterDroughts_91 : decode cX1_afterDroughts 91 = .ok (.areturn, 1) := by decide +kernel
def Fo_afterDroughts_L14 (N : Nat) (a2 : Int) (a3 : Int) (a4 : Int) (h14 : (Int × jMem) → Option (Int × jMem)) : Int × jMem → Option (Int × jMem)
  | (x2, M3) => (if x2 < a3 then jb1 (Fo_nextDraw N M3) fun r4 M5 => jlt (fun (M6 : jMem) => jbv (Fo_goOn N a2 1 M6) fun M7 => h14 ((w32 (x2 + 1)), M7)) fun j71 => (if (r4.tmod 100) < a4 then (if 0 < (M5 161 0) then jb1 (Fo_nextDraw N M5) fun r8 M9 => jchk ((M9 161 0) ≠ 0) <| jchk (0 ≤ (r8.tmod ((M9 161 0))) ∧ (r8.tmod ((M9 161 0))) < 7) <| jchk (0 ≤ (M9 165 ((r8.tmod ((M9 161 0))))) ∧ (M9 165 ((r8.tmod ((M9 161 0))))) < 7) <| jlt (up M9 164 ((M9 165 ((r8.tmod ((M9 161 0)))))) 0) fun M13 => j71 M13 else j71 M5) else j71 M5) else some (161, M3))
def Fo_afterDroughts (N : Nat) (a2 a3 a4 : Int) (M : jMem) : Option (Int × jMem) := jbv (St_copyFrom N 161 21 M) fun M1 => jfix N (Fo_afterDroughts_L14 N a2 a3 a4) (0, M1)
theorem c_Fo_afterDroughts {l : Launch} {g : jG} (N : Nat) (a2 a3 a4 : Int) (M : jMem) (ha2 : a2 < 0 ∨ jk jTX a2 5) : ∀ o, Fo_afterDroughts N a2 a3 a4 M = some o → jCt l g jTX yX1_afterDroughts cX1_afterDroughts 6 (some (.object "WellSwap$State")) 2 13 [(2, 157), (2, 14), (2, a2), (0, a3), (0, a4)] M o := by
  refine jMet (own := RX1) (em := id) (L := [(0, 2, 157), (1, 2, 14), (2, 2, a2), (3, 0, a3), (4, 0, a4)]) (by decide +kernel) rfl (Nat.le_of_ble_eq_true rfl) rfl (fun K hR => ?_)
  unfold Fo_afterDroughts
  refine z_aload_n (pc := 0) hR 0 dX1_afterDroughts_0 rfl rfl ?_
  refine z_getr (pc := 1) hR (c0 := 4) (r := 161) jf_RX1_21 kxo_157 (by decide) rfl rfl dX1_afterDroughts_1 ?_
  refine z_aload_n (pc := 4) hR 1 dX1_afterDroughts_4 rfl rfl ?_
  refine z_getr (pc := 5) hR (c0 := 7) (r := 21) jf_RX1_45 kxo_14 (by decide) rfl rfl dX1_afterDroughts_5 ?_
  refine z_callv0 (pc := 8) (rk' := 3) hR (As := [(2, 21)]) (st := []) jm_X7_copyFrom jl_RX1_50 kxo_161 (by decide) rfl (c_St_copyFrom N 161 21 M kxo_161 kxo_21) rfl (by decide) (by decide) rfl (Nat.le_of_ble_eq_true rfl) dX1_afterDroughts_8 (fun M1 => ?_)
  refine z_iconst (pc := 11) hR dX1_afterDroughts_11 rfl ?_
  refine z_istore (pc := 12) hR (lv' := [(5, 0, 0), (0, 2, 157), (1, 2, 14), (2, 2, a2), (3, 0, a3), (4, 0, a4)]) dX1_afterDroughts_12 (by decide) rfl ?_
  refine z_pick (pc := 14) (lv' := [(0, 2, 157), (1, 2, 14), (2, 2, a2), (3, 0, a3), (4, 0, a4), (5, 0, 0)]) hR [1, 2, 3, 4, 5, 0] rfl ?_
  refine z_fix (σ := Int × jMem) (lv := fun s => [(0, 2, 157), (1, 2, 14), (2, 2, a2), (3, 0, a3), (4, 0, a4), (5, 0, s.1)]) (st := fun _ => []) (M := fun s => s.2) (fun h14 hh14 => ?_) N (0, M1)
  rintro ⟨x2, M3⟩
  show jZ K id 14 [(0, 2, 157), (1, 2, 14), (2, 2, a2), (3, 0, a3), (4, 0, a4), (5, 0, x2)] [] M3 _
  unfold Fo_afterDroughts_L14
  refine z_iload (pc := 14) hR 5 dX1_afterDroughts_14 rfl ?_
  refine z_iload_n (pc := 16) hR 3 dX1_afterDroughts_16 rfl rfl ?_
  refine z_icmpge (pc := 17) (tgt := 87) hR dX1_afterDroughts_17 (by decide) ?_ ?_
  · refine z_aload_n (pc := 87) hR 0 dX1_afterDroughts_87 rfl rfl ?_
    refine z_getr (pc := 88) hR (c0 := 4) (r := 161) jf_RX1_21 kxo_157 (by decide) rfl rfl dX1_afterDroughts_88 ?_
    exact z_areturn (pc := 91) hR rfl rfl dX1_afterDroughts_91 rfl
  · refine z_aload_n (pc := 20) hR 0 dX1_afterDroughts_20 rfl rfl ?_
    refine z_callv1 (pc := 21) hR (As := []) (st := []) jm_X1_nextDraw jl_RX1_157 kxo_157 (by decide) rfl (by decide) (c_Fo_nextDraw N M3) rfl (by decide) (by decide) rfl (Nat.le_of_ble_eq_true rfl) dX1_afterDroughts_21 (fun r4 M5 => ?_)
    refine z_bipush (pc := 24) hR dX1_afterDroughts_24 rfl ?_
    refine z_irem (pc := 26) hR dX1_afterDroughts_26 (by decide) ?_
    refine z_iload (pc := 27) hR 4 dX1_afterDroughts_27 rfl ?_
    refine z_join (P := fun j => ∀ (M6 : jMem), jZ K id 71 [(0, 2, 157), (1, 2, 14), (2, 2, a2), (3, 0, a3), (4, 0, a4), (5, 0, x2)] [] M6 (j M6)) (fun M6 => ?_) (fun j71 hj71 => ?_)
    · refine z_aload_n (pc := 71) hR 0 dX1_afterDroughts_71 rfl rfl ?_
      refine z_aload_n (pc := 72) hR 1 dX1_afterDroughts_72 rfl rfl ?_
      refine z_getr (pc := 73) hR (c0 := 1) (r := 15) jf_RX1_54 kxo_14 (by decide) rfl rfl dX1_afterDroughts_73 ?_
      refine z_aload_n (pc := 76) hR 2 dX1_afterDroughts_76 rfl rfl ?_
      refine z_iconst (pc := 77) hR dX1_afterDroughts_77 rfl ?_
      refine z_callv0 (pc := 78) (rk' := 3) hR (As := [(2, 15), (2, a2), (0, 1)]) (st := []) jm_X1_goOn jl_RX1_58 kxo_157 (by decide) rfl (c_Fo_goOn N a2 1 M6 ha2) rfl (by decide) (by decide) rfl (Nat.le_of_ble_eq_true rfl) dX1_afterDroughts_78 (fun M7 => ?_)
      refine z_iinc (pc := 81) hR (j := 5) (lv' := [(5, 0, (w32 (x2 + 1))), (0, 2, 157), (1, 2, 14), (2, 2, a2), (3, 0, a3), (4, 0, a4)]) dX1_afterDroughts_81 rfl (by decide) rfl ?_
      refine z_goto (pc := 84) (tgt := 14) hR dX1_afterDroughts_84 (by decide) ?_
      refine z_pick (pc := 14) (lv' := [(0, 2, 157), (1, 2, 14), (2, 2, a2), (3, 0, a3), (4, 0, a4), (5, 0, (w32 (x2 + 1)))]) hR [1, 2, 3, 4, 5, 0] rfl ?_
      exact hh14 ((w32 (x2 + 1)), M7)
    refine z_icmpge (pc := 29) (tgt := 71) hR dX1_afterDroughts_29 (by decide) ?_ ?_
    · exact hj71 M5
    · refine z_aload_n (pc := 32) hR 0 dX1_afterDroughts_32 rfl rfl ?_
      refine z_getr (pc := 33) hR (c0 := 4) (r := 161) jf_RX1_21 kxo_157 (by decide) rfl rfl dX1_afterDroughts_33 ?_
      refine z_geti (pc := 36) hR (j := 0) jf_RX1_73 kxo_161 (by decide) rfl rfl dX1_afterDroughts_36 ?_
      refine z_ifle (pc := 39) (tgt := 71) hR dX1_afterDroughts_39 (by decide) ?_ ?_
      · exact hj71 M5
      · refine z_aload_n (pc := 42) hR 0 dX1_afterDroughts_42 rfl rfl ?_
        refine z_getr (pc := 43) hR (c0 := 4) (r := 161) jf_RX1_21 kxo_157 (by decide) rfl rfl dX1_afterDroughts_43 ?_
        refine z_getr (pc := 46) hR (c0 := 3) (r := 164) jf_RX1_104 kxo_161 (by decide) rfl rfl dX1_afterDroughts_46 ?_
        refine z_aload_n (pc := 49) hR 0 dX1_afterDroughts_49 rfl rfl ?_
        refine z_getr (pc := 50) hR (c0 := 4) (r := 161) jf_RX1_21 kxo_157 (by decide) rfl rfl dX1_afterDroughts_50 ?_
        refine z_getr (pc := 53) hR (c0 := 4) (r := 165) jf_RX1_124 kxo_161 (by decide) rfl rfl dX1_afterDroughts_53 ?_
        refine z_aload_n (pc := 56) hR 0 dX1_afterDroughts_56 rfl rfl ?_
        refine z_callv1 (pc := 57) hR (As := []) (st := [(2, 165), (2, 164)]) jm_X1_nextDraw jl_RX1_157 kxo_157 (by decide) rfl (by decide) (c_Fo_nextDraw N M5) rfl (by decide) (by decide) rfl (Nat.le_of_ble_eq_true rfl) dX1_afterDroughts_57 (fun r8 M9 => ?_)
        refine z_aload_n (pc := 60) hR 0 dX1_afterDroughts_60 rfl rfl ?_
        refine z_getr (pc := 61) hR (c0 := 4) (r := 161) jf_RX1_21 kxo_157 (by decide) rfl rfl dX1_afterDroughts_61 ?_
        refine z_geti (pc := 64) hR (j := 0) jf_RX1_73 kxo_161 (by decide) rfl rfl dX1_afterDroughts_64 ?_
        refine z_chk (fun hc10 => ?_)
        refine z_irem (pc := 67) hR dX1_afterDroughts_67 hc10 ?_
        refine z_chk (fun hc11 => ?_)
        refine z_iald (pc := 68) hR (n := 7) kxa_165 hc11.1 hc11.2 dX1_afterDroughts_68 ?_
        refine z_iconst (pc := 69) hR dX1_afterDroughts_69 rfl ?_
        refine z_chk (fun hc12 => ?_)
        refine z_iast (pc := 70) hR (n := 7) kxa_164 hc12.1 hc12.2 dX1_afterDroughts_70 (fun M13 => ?_)
        exact hj71 M13
theorem dX11_droughts_0 : decode cX11_droughts 0 = .ok (.iload_n 1, 1) := by decide +kernel
theorem dX11_droughts_1 : decode cX11_droughts 1 = .ok (.iconst 1, 1) := by decide +kernel
theorem dX11_droughts_2 : decode cX11_droughts 2 = .ok (.bipush 10, 2) := by decide +kernel
theorem dX11_droughts_4 : decode cX11_droughts 4 = .ok (.invokestatic 137, 3) := by decide +kernel
theorem dX11_droughts_7 : decode cX11_droughts 7 = .ok (.ifCond .eq 23, 3) := by decide +kernel
theorem dX11_droughts_10 : decode cX11_droughts 10 = .ok (.iload_n 2, 1) := by decide +kernel
theorem dX11_droughts_11 : decode cX11_droughts 11 = .ok (.iconst 1, 1) := by decide +kernel
theorem dX11_droughts_12 : decode cX11_droughts 12 = .ok (.bipush 60, 2) := by decide +kernel
theorem dX11_droughts_14 : decode cX11_droughts 14 = .ok (.invokestatic 137, 3) := by decide +kernel
theorem dX11_droughts_17 : decode cX11_droughts 17 = .ok (.ifCond .eq 13, 3) := by decide +kernel
theorem dX11_droughts_20 : decode cX11_droughts 20 = .ok (.iload_n 3, 1) := by decide +kernel
theorem dX11_droughts_21 : decode cX11_droughts 21 = .ok (.iconst 0, 1) := by decide +kernel
theorem dX11_droughts_22 : decode cX11_droughts 22 = .ok (.bipush 100, 2) := by decide +kernel
theorem dX11_droughts_24 : decode cX11_droughts 24 = .ok (.invokestatic 137, 3) := by decide +kernel
theorem dX11_droughts_27 : decode cX11_droughts 27 = .ok (.ifCond .ne 5, 3) := by decide +kernel
theorem dX11_droughts_30 : decode cX11_droughts 30 = .ok (.iconst (-1), 1) := by decide +kernel
theorem dX11_droughts_31 : decode cX11_droughts 31 = .ok (.ireturn, 1) := by decide +kernel
theorem dX11_droughts_32 : decode cX11_droughts 32 = .ok (.iload 4, 2) := by decide +kernel
theorem dX11_droughts_34 : decode cX11_droughts 34 = .ok (.iconst 0, 1) := by decide +kernel
theorem dX11_droughts_35 : decode cX11_droughts 35 = .ok (.iconst 1, 1) := by decide +kernel
theorem dX11_droughts_36 : decode cX11_droughts 36 = .ok (.invokestatic 137, 3) := by decide +kernel
theorem dX11_droughts_39 : decode cX11_droughts 39 = .ok (.ifCond .eq 10, 3) := by decide +kernel
theorem dX11_droughts_42 : decode cX11_droughts 42 = .ok (.aload_n 0, 1) := by decide +kernel
theorem dX11_droughts_43 : decode cX11_droughts 43 = .ok (.invokevirtual 177, 3) := by decide +kernel
theorem dX11_droughts_46 : decode cX11_droughts 46 = .ok (.ifCond .ne 5, 3) := by decide +kernel
theorem dX11_droughts_49 : decode cX11_droughts 49 = .ok (.iconst (-1), 1) := by decide +kernel
theorem dX11_droughts_50 : decode cX11_droughts 50 = .ok (.ireturn, 1) := by decide +kernel
theorem dX11_droughts_51 : decode cX11_droughts 51 = .ok (.iconst 0, 1) := by decide +kernel
theorem dX11_droughts_52 : decode cX11_droughts 52 = .ok (.istore 5, 2) := by decide +kernel
theorem dX11_droughts_54 : decode cX11_droughts 54 = .ok (.iconst 0, 1) := by decide +kernel
theorem dX11_droughts_55 : decode cX11_droughts 55 = .ok (.istore 6, 2) := by decide +kernel
theorem dX11_droughts_57 : decode cX11_droughts 57 = .ok (.aload_n 0, 1) := by decide +kernel
theorem dX11_droughts_58 : decode cX11_droughts 58 = .ok (.getfield 68, 3) := by decide +kernel
theorem dX11_droughts_61 : decode cX11_droughts 61 = .ok (.aload_n 0, 1) := by decide +kernel
theorem dX11_droughts_62 : decode cX11_droughts 62 = .ok (.getfield 43, 3) := by decide +kernel
theorem dX11_droughts_65 : decode cX11_droughts 65 = .ok (.getfield 208, 3) := by decide +kernel
theorem dX11_droughts_68 : decode cX11_droughts 68 = .ok (.putfield 329, 3) := by decide +kernel
theorem dX11_droughts_71 : decode cX11_droughts 71 = .ok (.iconst 0, 1) := by decide +kernel
theorem dX11_droughts_72 : decode cX11_droughts 72 = .ok (.istore 7, 2) := by decide +kernel
theorem dX11_droughts_74 : decode cX11_droughts 74 = .ok (.iload 7, 2) := by decide +kernel
theorem dX11_droughts_76 : decode cX11_droughts 76 = .ok (.iload_n 1, 1) := by decide +kernel
theorem dX11_droughts_77 : decode cX11_droughts 77 = .ok (.if_icmp .ge 48, 3) := by decide +kernel
theorem dX11_droughts_80 : decode cX11_droughts 80 = .ok (.aload_n 0, 1) := by decide +kernel
theorem dX11_droughts_81 : decode cX11_droughts 81 = .ok (.getfield 68, 3) := by decide +kernel
theorem dX11_droughts_84 : decode cX11_droughts 84 = .ok (.aload_n 0, 1) := by decide +kernel
theorem dX11_droughts_85 : decode cX11_droughts 85 = .ok (.getfield 43, 3) := by decide +kernel
theorem dX11_droughts_88 : decode cX11_droughts 88 = .ok (.aload_n 0, 1) := by decide +kernel
theorem dX11_droughts_89 : decode cX11_droughts 89 = .ok (.invokevirtual 215, 3) := by decide +kernel
theorem dX11_droughts_92 : decode cX11_droughts 92 = .ok (.iload_n 2, 1) := by decide +kernel
theorem dX11_droughts_93 : decode cX11_droughts 93 = .ok (.iload_n 3, 1) := by decide +kernel
theorem dX11_droughts_94 : decode cX11_droughts 94 = .ok (.invokevirtual 330, 3) := by decide +kernel
theorem dX11_droughts_97 : decode cX11_droughts 97 = .ok (.astore 8, 2) := by decide +kernel
theorem dX11_droughts_99 : decode cX11_droughts 99 = .ok (.iload 5, 2) := by decide +kernel
theorem dX11_droughts_101 : decode cX11_droughts 101 = .ok (.aload 8, 2) := by decide +kernel
theorem dX11_droughts_103 : decode cX11_droughts 103 = .ok (.invokevirtual 231, 3) := by decide +kernel
theorem dX11_droughts_106 : decode cX11_droughts 106 = .ok (.iadd, 1) := by decide +kernel
theorem dX11_droughts_107 : decode cX11_droughts 107 = .ok (.istore 5, 2) := by decide +kernel
theorem dX11_droughts_109 : decode cX11_droughts 109 = .ok (.iload 6, 2) := by decide +kernel
theorem dX11_droughts_111 : decode cX11_droughts 111 = .ok (.aload 8, 2) := by decide +kernel
theorem dX11_droughts_113 : decode cX11_droughts 113 = .ok (.invokevirtual 194, 3) := by decide +kernel
theorem dX11_droughts_116 : decode cX11_droughts 116 = .ok (.iadd, 1) := by decide +kernel
theorem dX11_droughts_117 : decode cX11_droughts 117 = .ok (.istore 6, 2) := by decide +kernel
theorem dX11_droughts_119 : decode cX11_droughts 119 = .ok (.iinc 7 1, 3) := by decide +kernel
theorem dX11_droughts_122 : decode cX11_droughts 122 = .ok (.goto (-48), 3) := by decide +kernel
theorem dX11_droughts_125 : decode cX11_droughts 125 = .ok (.iload 4, 2) := by decide +kernel
theorem dX11_droughts_127 : decode cX11_droughts 127 = .ok (.ifCond .ne 8, 3) := by decide +kernel
theorem dX11_droughts_130 : decode cX11_droughts 130 = .ok (.iload 5, 2) := by decide +kernel
theorem dX11_droughts_132 : decode cX11_droughts 132 = .ok (.goto 5, 3) := by decide +kernel
theorem dX11_droughts_135 : decode cX11_droughts 135 = .ok (.iload 6, 2) := by decide +kernel
theorem dX11_droughts_137 : decode cX11_droughts 137 = .ok (.ireturn, 1) := by decide +kernel
def x_droughts_L74 (N : Nat) (a1 : Int) (a2 : Int) (a3 : Int) (a4 : Int) (h74 : (Int × Int × Int × jMem) → Option (Int × jMem)) : Int × Int × Int × jMem → Option (Int × jMem)
  | (x7, x8, x9, M10) => (if x9 < a1 then (x_ruleInForce N M10).bind fun r11 => jchk (jnb jTX r11 5 = true) <| jb1 (Fo_afterDroughts N r11 a2 a3 M10) fun r13 M14 => jchk (jkb jTX r13 7 = true) <| (St_homes N r13 M14).bind fun r16 => jlt ((w32 (x7 + r16))) fun v17 => (St_waterOfAll N r13 M14).bind fun r18 => jlt ((w32 (x8 + r18))) fun v19 => h74 (v17, v19, (w32 (x9 + 1)), M14) else (if a4 = 0 then some (x7, M10) else some (x8, M10)))
def x_droughts (N : Nat) (a1 a2 a3 a4 : Int) (M : jMem) : Option (Int × jMem) := (x_isWithin N a1 1 10 M).bind fun r1 => (if r1 = 0 then some ((-1), M) else (x_isWithin N a2 1 60 M).bind fun r2 => (if r2 = 0 then some ((-1), M) else (x_isWithin N a3 0 100 M).bind fun r3 => (if r3 = 0 then some ((-1), M) else (x_isWithin N a4 0 1 M).bind fun r4 => (if r4 = 0 then some ((-1), M) else (x_hasParish N M).bind fun r5 => (if r5 = 0 then some ((-1), M) else jlt (up M 157 7 ((M 14 4))) fun M6 => jfix N (x_droughts_L74 N a1 a2 a3 a4) (0, 0, 0, M6))))))
theorem c_x_droughts {l : Launch} {g : jG} (N : Nat) (a1 a2 a3 a4 : Int) (M : jMem)  : ∀ o, x_droughts N a1 a2 a3 a4 M = some o → jCt l g jTX yX11_droughts cX11_droughts 9 (some .int) 0 15 [(2, 0), (0, a1), (0, a2), (0, a3), (0, a4)] M o := by
  refine jMet (own := RX11) (em := id) (L := [(0, 2, 0), (1, 0, a1), (2, 0, a2), (3, 0, a3), (4, 0, a4)]) (by decide +kernel) rfl (Nat.le_of_ble_eq_true rfl) rfl (fun K hR => ?_)
  unfold x_droughts
  refine z_iload_n (pc := 0) hR 1 dX11_droughts_0 rfl rfl ?_
  refine z_iconst (pc := 1) hR dX11_droughts_1 rfl ?_
  refine z_bipush (pc := 2) hR dX11_droughts_2 rfl ?_
  refine z_callsp (pc := 4) hR (As := [(0, a1), (0, 1), (0, 10)]) (st := []) jm_X11_isWithin jl_RX11_137 (by decide) (c_x_isWithin N a1 1 10 M) rfl (by decide) (by decide) rfl (Nat.le_of_ble_eq_true rfl) dX11_droughts_4 (fun r1 => ?_)
  refine z_ifeq (pc := 7) (tgt := 30) hR dX11_droughts_7 (by decide) ?_ ?_
  · refine z_iconst (pc := 30) hR dX11_droughts_30 rfl ?_
    exact z_ireturn (pc := 31) hR rfl rfl dX11_droughts_31 rfl
  · refine z_iload_n (pc := 10) hR 2 dX11_droughts_10 rfl rfl ?_
    refine z_iconst (pc := 11) hR dX11_droughts_11 rfl ?_
    refine z_bipush (pc := 12) hR dX11_droughts_12 rfl ?_
    refine z_callsp (pc := 14) hR (As := [(0, a2), (0, 1), (0, 60)]) (st := []) jm_X11_isWithin jl_RX11_137 (by decide) (c_x_isWithin N a2 1 60 M) rfl (by decide) (by decide) rfl (Nat.le_of_ble_eq_true rfl) dX11_droughts_14 (fun r2 => ?_)
    refine z_ifeq (pc := 17) (tgt := 30) hR dX11_droughts_17 (by decide) ?_ ?_
    · refine z_iconst (pc := 30) hR dX11_droughts_30 rfl ?_
      exact z_ireturn (pc := 31) hR rfl rfl dX11_droughts_31 rfl
    · refine z_iload_n (pc := 20) hR 3 dX11_droughts_20 rfl rfl ?_
      refine z_iconst (pc := 21) hR dX11_droughts_21 rfl ?_
      refine z_bipush (pc := 22) hR dX11_droughts_22 rfl ?_
      refine z_callsp (pc := 24) hR (As := [(0, a3), (0, 0), (0, 100)]) (st := []) jm_X11_isWithin jl_RX11_137 (by decide) (c_x_isWithin N a3 0 100 M) rfl (by decide) (by decide) rfl (Nat.le_of_ble_eq_true rfl) dX11_droughts_24 (fun r3 => ?_)
      refine z_ifne (pc := 27) (tgt := 32) hR dX11_droughts_27 (by decide) ?_ ?_
      · refine z_iload (pc := 32) hR 4 dX11_droughts_32 rfl ?_
        refine z_iconst (pc := 34) hR dX11_droughts_34 rfl ?_
        refine z_iconst (pc := 35) hR dX11_droughts_35 rfl ?_
        refine z_callsp (pc := 36) hR (As := [(0, a4), (0, 0), (0, 1)]) (st := []) jm_X11_isWithin jl_RX11_137 (by decide) (c_x_isWithin N a4 0 1 M) rfl (by decide) (by decide) rfl (Nat.le_of_ble_eq_true rfl) dX11_droughts_36 (fun r4 => ?_)
        refine z_ifeq (pc := 39) (tgt := 49) hR dX11_droughts_39 (by decide) ?_ ?_
        · refine z_iconst (pc := 49) hR dX11_droughts_49 rfl ?_
          exact z_ireturn (pc := 50) hR rfl rfl dX11_droughts_50 rfl
        · refine z_aload_n (pc := 42) hR 0 dX11_droughts_42 rfl rfl ?_
          refine z_callvp (pc := 43) hR (As := []) (st := []) jm_X11_hasParish jl_RX11_177 kxo_0 (by decide) rfl (by decide) (c_x_hasParish N M) rfl (by decide) (by decide) rfl (Nat.le_of_ble_eq_true rfl) dX11_droughts_43 (fun r5 => ?_)
          refine z_ifne (pc := 46) (tgt := 51) hR dX11_droughts_46 (by decide) ?_ ?_
          · refine z_iconst (pc := 51) hR dX11_droughts_51 rfl ?_
            refine z_istore (pc := 52) hR (lv' := [(5, 0, 0), (0, 2, 0), (1, 0, a1), (2, 0, a2), (3, 0, a3), (4, 0, a4)]) dX11_droughts_52 (by decide) rfl ?_
            refine z_iconst (pc := 54) hR dX11_droughts_54 rfl ?_
            refine z_istore (pc := 55) hR (lv' := [(6, 0, 0), (5, 0, 0), (0, 2, 0), (1, 0, a1), (2, 0, a2), (3, 0, a3), (4, 0, a4)]) dX11_droughts_55 (by decide) rfl ?_
            refine z_aload_n (pc := 57) hR 2 dX11_droughts_57 rfl rfl ?_
            refine z_getr (pc := 58) hR (c0 := 157) (r := 157) jf_RX11_68 kxo_0 (by decide) rfl rfl dX11_droughts_58 ?_
            refine z_aload_n (pc := 61) hR 2 dX11_droughts_61 rfl rfl ?_
            refine z_getr (pc := 62) hR (c0 := 14) (r := 14) jf_RX11_43 kxo_0 (by decide) rfl rfl dX11_droughts_62 ?_
            refine z_geti (pc := 65) hR (j := 4) jf_RX11_208 kxo_14 (by decide) rfl rfl dX11_droughts_65 ?_
            refine z_puti (pc := 68) hR (j := 7) jp_RX11_329 kxo_157 (by decide) rfl rfl rfl rfl dX11_droughts_68 (fun M6 => ?_)
            refine z_iconst (pc := 71) hR dX11_droughts_71 rfl ?_
            refine z_istore (pc := 72) hR (lv' := [(7, 0, 0), (6, 0, 0), (5, 0, 0), (0, 2, 0), (1, 0, a1), (2, 0, a2), (3, 0, a3), (4, 0, a4)]) dX11_droughts_72 (by decide) rfl ?_
            refine z_pick (pc := 74) (lv' := [(0, 2, 0), (1, 0, a1), (2, 0, a2), (3, 0, a3), (4, 0, a4), (5, 0, 0), (6, 0, 0), (7, 0, 0)]) hR [3, 4, 5, 6, 7, 2, 1, 0] rfl ?_
            refine z_fix (σ := Int × Int × Int × jMem) (lv := fun s => [(0, 2, 0), (1, 0, a1), (2, 0, a2), (3, 0, a3), (4, 0, a4), (5, 0, s.1), (6, 0, s.2.1), (7, 0, s.2.2.1)]) (st := fun _ => []) (M := fun s => s.2.2.2) (fun h74 hh74 => ?_) N (0, 0, 0, M6)
            rintro ⟨x7, x8, x9, M10⟩
            show jZ K id 74 [(0, 2, 0), (1, 0, a1), (2, 0, a2), (3, 0, a3), (4, 0, a4), (5, 0, x7), (6, 0, x8), (7, 0, x9)] [] M10 _
            unfold x_droughts_L74
            refine z_iload (pc := 74) hR 7 dX11_droughts_74 rfl ?_
            refine z_iload_n (pc := 76) hR 1 dX11_droughts_76 rfl rfl ?_
            refine z_icmpge (pc := 77) (tgt := 125) hR dX11_droughts_77 (by decide) ?_ ?_
            · refine z_iload (pc := 125) hR 4 dX11_droughts_125 rfl ?_
              refine z_ifne (pc := 127) (tgt := 135) hR dX11_droughts_127 (by decide) ?_ ?_
              · refine z_iload (pc := 135) hR 6 dX11_droughts_135 rfl ?_
                exact z_ireturn (pc := 137) hR rfl rfl dX11_droughts_137 rfl
              · refine z_iload (pc := 130) hR 5 dX11_droughts_130 rfl ?_
                refine z_goto (pc := 132) (tgt := 137) hR dX11_droughts_132 (by decide) ?_
                exact z_ireturn (pc := 137) hR rfl rfl dX11_droughts_137 rfl
            · refine z_aload_n (pc := 80) hR 0 dX11_droughts_80 rfl rfl ?_
              refine z_getr (pc := 81) hR (c0 := 157) (r := 157) jf_RX11_68 kxo_0 (by decide) rfl rfl dX11_droughts_81 ?_
              refine z_aload_n (pc := 84) hR 0 dX11_droughts_84 rfl rfl ?_
              refine z_getr (pc := 85) hR (c0 := 14) (r := 14) jf_RX11_43 kxo_0 (by decide) rfl rfl dX11_droughts_85 ?_
              refine z_aload_n (pc := 88) hR 0 dX11_droughts_88 rfl rfl ?_
              refine z_callvp (pc := 89) hR (As := []) (st := [(2, 14), (2, 157)]) jm_X11_ruleInForce jl_RX11_215 kxo_0 (by decide) rfl (by decide) (c_x_ruleInForce N M10) rfl (by decide) (by decide) rfl (Nat.le_of_ble_eq_true rfl) dX11_droughts_89 (fun r11 => ?_)
              refine z_chk (fun hc12 => ?_)
              refine z_iload_n (pc := 92) hR 2 dX11_droughts_92 rfl rfl ?_
              refine z_iload_n (pc := 93) hR 3 dX11_droughts_93 rfl rfl ?_
              refine z_callv1 (pc := 94) hR (As := [(2, 14), (2, r11), (0, a2), (0, a3)]) (st := []) jm_X1_afterDroughts jl_RX11_330 kxo_157 (by decide) rfl (by decide) (c_Fo_afterDroughts N r11 a2 a3 M10 (jnb_ok hc12)) rfl (by decide) (by decide) rfl (Nat.le_of_ble_eq_true rfl) dX11_droughts_94 (fun r13 M14 => ?_)
              refine z_chk (fun hc15 => ?_)
              refine z_astore (pc := 97) hR (lv' := [(8, 2, r13), (0, 2, 0), (1, 0, a1), (2, 0, a2), (3, 0, a3), (4, 0, a4), (5, 0, x7), (6, 0, x8), (7, 0, x9)]) dX11_droughts_97 (by decide) rfl ?_
              refine z_iload (pc := 99) hR 6 dX11_droughts_99 rfl ?_
              refine z_aload (pc := 101) hR 0 dX11_droughts_101 rfl ?_
              refine z_callvp (pc := 103) hR (As := []) (st := [(0, x7)]) jm_X7_homes jl_RX11_231 (jkb_ok hc15) (by decide) rfl (by decide) (c_St_homes N r13 M14 (jkb_ok hc15)) rfl (by decide) (by decide) rfl (Nat.le_of_ble_eq_true rfl) dX11_droughts_103 (fun r16 => ?_)
              refine z_iadd (pc := 106) hR dX11_droughts_106 ?_
              refine z_let1 (fun v17 => ?_)
              refine z_istore (pc := 107) hR (lv' := [(5, 0, v17), (8, 2, r13), (0, 2, 0), (1, 0, a1), (2, 0, a2), (3, 0, a3), (4, 0, a4), (6, 0, x8), (7, 0, x9)]) dX11_droughts_107 (by decide) rfl ?_
              refine z_iload (pc := 109) hR 7 dX11_droughts_109 rfl ?_
              refine z_aload (pc := 111) hR 1 dX11_droughts_111 rfl ?_
              refine z_callvp (pc := 113) hR (As := []) (st := [(0, x8)]) jm_X7_waterOfAll jl_RX11_194 (jkb_ok hc15) (by decide) rfl (by decide) (c_St_waterOfAll N r13 M14 (jkb_ok hc15)) rfl (by decide) (by decide) rfl (Nat.le_of_ble_eq_true rfl) dX11_droughts_113 (fun r18 => ?_)
              refine z_iadd (pc := 116) hR dX11_droughts_116 ?_
              refine z_let1 (fun v19 => ?_)
              refine z_istore (pc := 117) hR (lv' := [(6, 0, v19), (5, 0, v17), (8, 2, r13), (0, 2, 0), (1, 0, a1), (2, 0, a2), (3, 0, a3), (4, 0, a4), (7, 0, x9)]) dX11_droughts_117 (by decide) rfl ?_
              refine z_iinc (pc := 119) hR (j := 8) (lv' := [(7, 0, (w32 (x9 + 1))), (6, 0, v19), (5, 0, v17), (8, 2, r13), (0, 2, 0), (1, 0, a1), (2, 0, a2), (3, 0, a3), (4, 0, a4)]) dX11_droughts_119 rfl (by decide) rfl ?_
              refine z_goto (pc := 122) (tgt := 74) hR dX11_droughts_122 (by decide) ?_
              refine z_pick (pc := 74) (lv' := [(0, 2, 0), (1, 0, a1), (2, 0, a2), (3, 0, a3), (4, 0, a4), (5, 0, v17), (6, 0, v19), (7, 0, (w32 (x9 + 1)))]) hR [4, 5, 6, 7, 8, 2, 1, 0] rfl ?_
              exact hh74 (v17, v19, (w32 (x9 + 1)), M14)
          · refine z_iconst (pc := 49) hR dX11_droughts_49 rfl ?_
            exact z_ireturn (pc := 50) hR rfl rfl dX11_droughts_50 rfl
      · refine z_iconst (pc := 30) hR dX11_droughts_30 rfl ?_
        exact z_ireturn (pc := 31) hR rfl rfl dX11_droughts_31 rfl
theorem dX3_copyFrom_0 : decode cX3_copyFrom 0 = .ok (.aload_n 0, 1) := by decide +kernel
theorem dX3_copyFrom_1 : decode cX3_copyFrom 1 = .ok (.aload_n 1, 1) := by decide +kernel
theorem dX3_copyFrom_2 : decode cX3_copyFrom 2 = .ok (.getfield 21, 3) := by decide +kernel
theorem dX3_copyFrom_5 : decode cX3_copyFrom 5 = .ok (.putfield 21, 3) := by decide +kernel
theorem dX3_copyFrom_8 : decode cX3_copyFrom 8 = .ok (.aload_n 1, 1) := by decide +kernel
theorem dX3_copyFrom_9 : decode cX3_copyFrom 9 = .ok (.getfield 9, 3) := by decide +kernel
theorem dX3_copyFrom_12 : decode cX3_copyFrom 12 = .ok (.iconst 0, 1) := by decide +kernel
theorem dX3_copyFrom_13 : decode cX3_copyFrom 13 = .ok (.aload_n 0, 1) := by decide +kernel
theorem dX3_copyFrom_14 : decode cX3_copyFrom 14 = .ok (.getfield 9, 3) := by decide +kernel
theorem dX3_copyFrom_17 : decode cX3_copyFrom 17 = .ok (.iconst 0, 1) := by decide +kernel
theorem dX3_copyFrom_18 : decode cX3_copyFrom 18 = .ok (.bipush 10, 2) := by decide +kernel
theorem dX3_copyFrom_20 : decode cX3_copyFrom 20 = .ok (.invokestatic 25, 3) := by decide +kernel
theorem dX3_copyFrom_23 : decode cX3_copyFrom 23 = .ok (.aload_n 1, 1) := by decide +kernel
theorem dX3_copyFrom_24 : decode cX3_copyFrom 24 = .ok (.getfield 15, 3) := by decide +kernel
theorem dX3_copyFrom_27 : decode cX3_copyFrom 27 = .ok (.iconst 0, 1) := by decide +kernel
theorem dX3_copyFrom_28 : decode cX3_copyFrom 28 = .ok (.aload_n 0, 1) := by decide +kernel
theorem dX3_copyFrom_29 : decode cX3_copyFrom 29 = .ok (.getfield 15, 3) := by decide +kernel
theorem dX3_copyFrom_32 : decode cX3_copyFrom 32 = .ok (.iconst 0, 1) := by decide +kernel
theorem dX3_copyFrom_33 : decode cX3_copyFrom 33 = .ok (.bipush 10, 2) := by decide +kernel
theorem dX3_copyFrom_35 : decode cX3_copyFrom 35 = .ok (.invokestatic 25, 3) := by decide +kernel
theorem dX3_copyFrom_38 : decode cX3_copyFrom 38 = .ok (.aload_n 1, 1) := by decide +kernel
theorem dX3_copyFrom_39 : decode cX3_copyFrom 39 = .ok (.getfield 18, 3) := by decide +kernel
theorem dX3_copyFrom_42 : decode cX3_copyFrom 42 = .ok (.iconst 0, 1) := by decide +kernel
theorem dX3_copyFrom_43 : decode cX3_copyFrom 43 = .ok (.aload_n 0, 1) := by decide +kernel
theorem dX3_copyFrom_44 : decode cX3_copyFrom 44 = .ok (.getfield 18, 3) := by decide +kernel
theorem dX3_copyFrom_47 : decode cX3_copyFrom 47 = .ok (.iconst 0, 1) := by decide +kernel
theorem dX3_copyFrom_48 : decode cX3_copyFrom 48 = .ok (.bipush 10, 2) := by decide +kernel
theorem dX3_copyFrom_50 : decode cX3_copyFrom 50 = .ok (.invokestatic 25, 3) := by decide +kernel
theorem dX3_copyFrom_53 : decode cX3_copyFrom 53 = .ok (.return_, 1) := by decide +kernel
def No_copyFrom (N : Nat) (q a1 : Int) (M : jMem) : Option (Int × jMem) := jlt (up M q 0 ((M a1 0))) fun M1 => jlt (jcp M1 ((a1 + 1)) ((q + 1)) 10) fun M2 => jlt (jcp M2 ((a1 + 2)) ((q + 2)) 10) fun M3 => jlt (jcp M3 ((a1 + 3)) ((q + 3)) 10) fun M4 => some (0, M4)
theorem c_No_copyFrom {l : Launch} {g : jG} (N : Nat) (q a1 : Int) (M : jMem) (hq : jk jTX q 3) (ha1 : jk jTX a1 3) : ∀ o, No_copyFrom N q a1 M = some o → jCt l g jTX yX3_copyFrom cX3_copyFrom 2 none 3 2 [(2, q), (2, a1)] M o := by
  refine jMet (own := RX3) (em := id) (L := [(0, 2, q), (1, 2, a1)]) (by decide +kernel) rfl (Nat.le_of_ble_eq_true rfl) rfl (fun K hR => ?_)
  unfold No_copyFrom
  refine z_aload_n (pc := 0) hR 0 dX3_copyFrom_0 rfl rfl ?_
  refine z_aload_n (pc := 1) hR 1 dX3_copyFrom_1 rfl rfl ?_
  refine z_geti (pc := 2) hR (j := 0) jf_RX3_21 ha1 (by decide) rfl rfl dX3_copyFrom_2 ?_
  refine z_puti (pc := 5) hR (j := 0) jp_RX3_21 hq (by decide) rfl rfl rfl rfl dX3_copyFrom_5 (fun M1 => ?_)
  refine z_aload_n (pc := 8) hR 1 dX3_copyFrom_8 rfl rfl ?_
  refine z_getr (pc := 9) hR (c0 := 1) (r := (a1 + 1)) jf_RX3_9 ha1 (by decide) rfl rfl dX3_copyFrom_9 ?_
  refine z_iconst (pc := 12) hR dX3_copyFrom_12 rfl ?_
  refine z_aload_n (pc := 13) hR 0 dX3_copyFrom_13 rfl rfl ?_
  refine z_getr (pc := 14) hR (c0 := 1) (r := (q + 1)) jf_RX3_9 hq (by decide) rfl rfl dX3_copyFrom_14 ?_
  refine z_iconst (pc := 17) hR dX3_copyFrom_17 rfl ?_
  refine z_bipush (pc := 18) hR dX3_copyFrom_18 rfl ?_
  refine z_copy (pc := 20) hR (n := 10) jl_RX3_25 jw_cp_n jw_cp_s jw_System (kf_3_year ha1) (kf_3_year hq) rfl (by decide) (by decide) (by decide) (by decide) dX3_copyFrom_20 (fun M2 => ?_)
  refine z_aload_n (pc := 23) hR 1 dX3_copyFrom_23 rfl rfl ?_
  refine z_getr (pc := 24) hR (c0 := 2) (r := (a1 + 2)) jf_RX3_15 ha1 (by decide) rfl rfl dX3_copyFrom_24 ?_
  refine z_iconst (pc := 27) hR dX3_copyFrom_27 rfl ?_
  refine z_aload_n (pc := 28) hR 0 dX3_copyFrom_28 rfl rfl ?_
  refine z_getr (pc := 29) hR (c0 := 2) (r := (q + 2)) jf_RX3_15 hq (by decide) rfl rfl dX3_copyFrom_29 ?_
  refine z_iconst (pc := 32) hR dX3_copyFrom_32 rfl ?_
  refine z_bipush (pc := 33) hR dX3_copyFrom_33 rfl ?_
  refine z_copy (pc := 35) hR (n := 10) jl_RX3_25 jw_cp_n jw_cp_s jw_System (kf_3_farm ha1) (kf_3_farm hq) rfl (by decide) (by decide) (by decide) (by decide) dX3_copyFrom_35 (fun M3 => ?_)
  refine z_aload_n (pc := 38) hR 1 dX3_copyFrom_38 rfl rfl ?_
  refine z_getr (pc := 39) hR (c0 := 3) (r := (a1 + 3)) jf_RX3_18 ha1 (by decide) rfl rfl dX3_copyFrom_39 ?_
  refine z_iconst (pc := 42) hR dX3_copyFrom_42 rfl ?_
  refine z_aload_n (pc := 43) hR 0 dX3_copyFrom_43 rfl rfl ?_
  refine z_getr (pc := 44) hR (c0 := 3) (r := (q + 3)) jf_RX3_18 hq (by decide) rfl rfl dX3_copyFrom_44 ?_
  refine z_iconst (pc := 47) hR dX3_copyFrom_47 rfl ?_
  refine z_bipush (pc := 48) hR dX3_copyFrom_48 rfl ?_
  refine z_copy (pc := 50) hR (n := 10) jl_RX3_25 jw_cp_n jw_cp_s jw_System (kf_3_taste ha1) (kf_3_taste hq) rfl (by decide) (by decide) (by decide) (by decide) dX3_copyFrom_50 (fun M4 => ?_)
  exact z_return (x := 0) (pc := 53) hR rfl rfl dX3_copyFrom_53 rfl
theorem dX9_copyFrom_0 : decode cX9_copyFrom 0 = .ok (.aload_n 0, 1) := by decide +kernel
theorem dX9_copyFrom_1 : decode cX9_copyFrom 1 = .ok (.getfield 12, 3) := by decide +kernel
theorem dX9_copyFrom_4 : decode cX9_copyFrom 4 = .ok (.aload_n 1, 1) := by decide +kernel
theorem dX9_copyFrom_5 : decode cX9_copyFrom 5 = .ok (.getfield 12, 3) := by decide +kernel
theorem dX9_copyFrom_8 : decode cX9_copyFrom 8 = .ok (.invokevirtual 36, 3) := by decide +kernel
theorem dX9_copyFrom_11 : decode cX9_copyFrom 11 = .ok (.aload_n 0, 1) := by decide +kernel
theorem dX9_copyFrom_12 : decode cX9_copyFrom 12 = .ok (.getfield 21, 3) := by decide +kernel
theorem dX9_copyFrom_15 : decode cX9_copyFrom 15 = .ok (.aload_n 1, 1) := by decide +kernel
theorem dX9_copyFrom_16 : decode cX9_copyFrom 16 = .ok (.getfield 21, 3) := by decide +kernel
theorem dX9_copyFrom_19 : decode cX9_copyFrom 19 = .ok (.invokevirtual 40, 3) := by decide +kernel
theorem dX9_copyFrom_22 : decode cX9_copyFrom 22 = .ok (.aload_n 0, 1) := by decide +kernel
theorem dX9_copyFrom_23 : decode cX9_copyFrom 23 = .ok (.getfield 28, 3) := by decide +kernel
theorem dX9_copyFrom_26 : decode cX9_copyFrom 26 = .ok (.aload_n 1, 1) := by decide +kernel
theorem dX9_copyFrom_27 : decode cX9_copyFrom 27 = .ok (.getfield 28, 3) := by decide +kernel
theorem dX9_copyFrom_30 : decode cX9_copyFrom 30 = .ok (.invokevirtual 43, 3) := by decide +kernel
theorem dX9_copyFrom_33 : decode cX9_copyFrom 33 = .ok (.aload_n 0, 1) := by decide +kernel
theorem dX9_copyFrom_34 : decode cX9_copyFrom 34 = .ok (.aload_n 1, 1) := by decide +kernel
theorem dX9_copyFrom_35 : decode cX9_copyFrom 35 = .ok (.getfield 32, 3) := by decide +kernel
theorem dX9_copyFrom_38 : decode cX9_copyFrom 38 = .ok (.putfield 32, 3) := by decide +kernel
theorem dX9_copyFrom_41 : decode cX9_copyFrom 41 = .ok (.aload_n 0, 1) := by decide +kernel
theorem dX9_copyFrom_42 : decode cX9_copyFrom 42 = .ok (.aload_n 1, 1) := by decide +kernel
theorem dX9_copyFrom_43 : decode cX9_copyFrom 43 = .ok (.getfield 46, 3) := by decide +kernel
theorem dX9_copyFrom_46 : decode cX9_copyFrom 46 = .ok (.putfield 46, 3) := by decide +kernel
theorem dX9_copyFrom_49 : decode cX9_copyFrom 49 = .ok (.return_, 1) := by decide +kernel
def Wo_copyFrom (N : Nat) (q a1 : Int) (M : jMem) : Option (Int × jMem) := jbv (Pa_copyFrom N ((q + 1)) ((a1 + 1)) M) fun M1 => jbv (St_copyFrom N ((q + 7)) ((a1 + 7)) M1) fun M2 => jbv (No_copyFrom N ((q + 13)) ((a1 + 13)) M2) fun M3 => jlt (up M3 q 3 ((M3 a1 3))) fun M4 => jlt (up M4 q 4 ((M4 a1 4))) fun M5 => some (0, M5)
theorem c_Wo_copyFrom {l : Launch} {g : jG} (N : Nat) (q a1 : Int) (M : jMem) (hq : jk jTX q 9) (ha1 : jk jTX a1 9) : ∀ o, Wo_copyFrom N q a1 M = some o → jCt l g jTX yX9_copyFrom cX9_copyFrom 2 none 3 4 [(2, q), (2, a1)] M o := by
  refine jMet (own := RX9) (em := id) (L := [(0, 2, q), (1, 2, a1)]) (by decide +kernel) rfl (Nat.le_of_ble_eq_true rfl) rfl (fun K hR => ?_)
  unfold Wo_copyFrom
  refine z_aload_n (pc := 0) hR 0 dX9_copyFrom_0 rfl rfl ?_
  refine z_getr (pc := 1) hR (c0 := 1) (r := (q + 1)) jf_RX9_12 hq (by decide) rfl rfl dX9_copyFrom_1 ?_
  refine z_aload_n (pc := 4) hR 1 dX9_copyFrom_4 rfl rfl ?_
  refine z_getr (pc := 5) hR (c0 := 1) (r := (a1 + 1)) jf_RX9_12 ha1 (by decide) rfl rfl dX9_copyFrom_5 ?_
  refine z_callv0 (pc := 8) (rk' := 3) hR (As := [(2, (a1 + 1))]) (st := []) jm_X4_copyFrom jl_RX9_36 (kf_9_parish hq) (by decide) rfl (c_Pa_copyFrom N ((q + 1)) ((a1 + 1)) M (kf_9_parish hq) (kf_9_parish ha1)) rfl (by decide) (by decide) rfl (Nat.le_of_ble_eq_true rfl) dX9_copyFrom_8 (fun M1 => ?_)
  refine z_aload_n (pc := 11) hR 0 dX9_copyFrom_11 rfl rfl ?_
  refine z_getr (pc := 12) hR (c0 := 7) (r := (q + 7)) jf_RX9_21 hq (by decide) rfl rfl dX9_copyFrom_12 ?_
  refine z_aload_n (pc := 15) hR 1 dX9_copyFrom_15 rfl rfl ?_
  refine z_getr (pc := 16) hR (c0 := 7) (r := (a1 + 7)) jf_RX9_21 ha1 (by decide) rfl rfl dX9_copyFrom_16 ?_
  refine z_callv0 (pc := 19) (rk' := 3) hR (As := [(2, (a1 + 7))]) (st := []) jm_X7_copyFrom jl_RX9_40 (kf_9_state hq) (by decide) rfl (c_St_copyFrom N ((q + 7)) ((a1 + 7)) M1 (kf_9_state hq) (kf_9_state ha1)) rfl (by decide) (by decide) rfl (Nat.le_of_ble_eq_true rfl) dX9_copyFrom_19 (fun M2 => ?_)
  refine z_aload_n (pc := 22) hR 0 dX9_copyFrom_22 rfl rfl ?_
  refine z_getr (pc := 23) hR (c0 := 13) (r := (q + 13)) jf_RX9_28 hq (by decide) rfl rfl dX9_copyFrom_23 ?_
  refine z_aload_n (pc := 26) hR 1 dX9_copyFrom_26 rfl rfl ?_
  refine z_getr (pc := 27) hR (c0 := 13) (r := (a1 + 13)) jf_RX9_28 ha1 (by decide) rfl rfl dX9_copyFrom_27 ?_
  refine z_callv0 (pc := 30) (rk' := 3) hR (As := [(2, (a1 + 13))]) (st := []) jm_X3_copyFrom jl_RX9_43 (kf_9_notes hq) (by decide) rfl (c_No_copyFrom N ((q + 13)) ((a1 + 13)) M2 (kf_9_notes hq) (kf_9_notes ha1)) rfl (by decide) (by decide) rfl (Nat.le_of_ble_eq_true rfl) dX9_copyFrom_30 (fun M3 => ?_)
  refine z_aload_n (pc := 33) hR 0 dX9_copyFrom_33 rfl rfl ?_
  refine z_aload_n (pc := 34) hR 1 dX9_copyFrom_34 rfl rfl ?_
  refine z_geti (pc := 35) hR (j := 3) jf_RX9_32 ha1 (by decide) rfl rfl dX9_copyFrom_35 ?_
  refine z_puti (pc := 38) hR (j := 3) jp_RX9_32 hq (by decide) rfl rfl rfl rfl dX9_copyFrom_38 (fun M4 => ?_)
  refine z_aload_n (pc := 41) hR 0 dX9_copyFrom_41 rfl rfl ?_
  refine z_aload_n (pc := 42) hR 1 dX9_copyFrom_42 rfl rfl ?_
  refine z_geti (pc := 43) hR (j := 4) jf_RX9_46 ha1 (by decide) rfl rfl dX9_copyFrom_43 ?_
  refine z_puti (pc := 46) hR (j := 4) jp_RX9_46 hq (by decide) rfl rfl rfl rfl dX9_copyFrom_46 (fun M5 => ?_)
  exact z_return (x := 0) (pc := 49) hR rfl rfl dX9_copyFrom_49 rfl
theorem dX11_image_0 : decode cX11_image 0 = .ok (.iload_n 1, 1) := by decide +kernel
theorem dX11_image_1 : decode cX11_image 1 = .ok (.iconst 0, 1) := by decide +kernel
theorem dX11_image_2 : decode cX11_image 2 = .ok (.iconst 3, 1) := by decide +kernel
theorem dX11_image_3 : decode cX11_image 3 = .ok (.invokestatic 137, 3) := by decide +kernel
theorem dX11_image_6 : decode cX11_image 6 = .ok (.ifCond .ne 5, 3) := by decide +kernel
theorem dX11_image_9 : decode cX11_image 9 = .ok (.iconst (-1), 1) := by decide +kernel
theorem dX11_image_10 : decode cX11_image 10 = .ok (.ireturn, 1) := by decide +kernel
theorem dX11_image_11 : decode cX11_image 11 = .ok (.aload_n 0, 1) := by decide +kernel
theorem dX11_image_12 : decode cX11_image 12 = .ok (.getfield 54, 3) := by decide +kernel
theorem dX11_image_15 : decode cX11_image 15 = .ok (.iload_n 1, 1) := by decide +kernel
theorem dX11_image_16 : decode cX11_image 16 = .ok (.aaload, 1) := by decide +kernel
theorem dX11_image_17 : decode cX11_image 17 = .ok (.aload_n 0, 1) := by decide +kernel
theorem dX11_image_18 : decode cX11_image 18 = .ok (.getfield 43, 3) := by decide +kernel
theorem dX11_image_21 : decode cX11_image 21 = .ok (.invokevirtual 334, 3) := by decide +kernel
theorem dX11_image_24 : decode cX11_image 24 = .ok (.aload_n 0, 1) := by decide +kernel
theorem dX11_image_25 : decode cX11_image 25 = .ok (.getfield 54, 3) := by decide +kernel
theorem dX11_image_28 : decode cX11_image 28 = .ok (.iload_n 1, 1) := by decide +kernel
theorem dX11_image_29 : decode cX11_image 29 = .ok (.aaload, 1) := by decide +kernel
theorem dX11_image_30 : decode cX11_image 30 = .ok (.iconst 1, 1) := by decide +kernel
theorem dX11_image_31 : decode cX11_image 31 = .ok (.putfield 337, 3) := by decide +kernel
theorem dX11_image_34 : decode cX11_image 34 = .ok (.aload_n 0, 1) := by decide +kernel
theorem dX11_image_35 : decode cX11_image 35 = .ok (.getfield 43, 3) := by decide +kernel
theorem dX11_image_38 : decode cX11_image 38 = .ok (.getfield 102, 3) := by decide +kernel
theorem dX11_image_41 : decode cX11_image 41 = .ok (.getfield 188, 3) := by decide +kernel
theorem dX11_image_44 : decode cX11_image 44 = .ok (.ireturn, 1) := by decide +kernel
def x_image (N : Nat) (a1 : Int) (M : jMem) : Option (Int × jMem) := (x_isWithin N a1 0 3 M).bind fun r1 => (if r1 = 0 then some ((-1), M) else jchk (0 ≤ a1 ∧ a1 < 4) <| jbv (Wo_copyFrom N ((153 + 60 + 17 * a1)) 14 M) fun M3 => jchk (0 ≤ a1 ∧ a1 < 4) <| jlt (up M3 ((153 + 60 + 17 * a1)) 5 1) fun M5 => some ((M5 21 1), M5))
theorem c_x_image {l : Launch} {g : jG} (N : Nat) (a1 : Int) (M : jMem)  : ∀ o, x_image N a1 M = some o → jCt l g jTX yX11_image cX11_image 2 (some .int) 0 6 [(2, 0), (0, a1)] M o := by
  refine jMet (own := RX11) (em := id) (L := [(0, 2, 0), (1, 0, a1)]) (by decide +kernel) rfl (Nat.le_of_ble_eq_true rfl) rfl (fun K hR => ?_)
  unfold x_image
  refine z_iload_n (pc := 0) hR 1 dX11_image_0 rfl rfl ?_
  refine z_iconst (pc := 1) hR dX11_image_1 rfl ?_
  refine z_iconst (pc := 2) hR dX11_image_2 rfl ?_
  refine z_callsp (pc := 3) hR (As := [(0, a1), (0, 0), (0, 3)]) (st := []) jm_X11_isWithin jl_RX11_137 (by decide) (c_x_isWithin N a1 0 3 M) rfl (by decide) (by decide) rfl (Nat.le_of_ble_eq_true rfl) dX11_image_3 (fun r1 => ?_)
  refine z_ifne (pc := 6) (tgt := 11) hR dX11_image_6 (by decide) ?_ ?_
  · refine z_aload_n (pc := 11) hR 0 dX11_image_11 rfl rfl ?_
    refine z_getr (pc := 12) hR (c0 := 153) (r := 153) jf_RX11_54 kxo_0 (by decide) rfl rfl dX11_image_12 ?_
    refine z_iload_n (pc := 15) hR 1 dX11_image_15 rfl rfl ?_
    refine z_chk (fun hc2 => ?_)
    refine z_aald6 (pc := 16) hR (n := 4) kxa_153 hc2.1 hc2.2 dX11_image_16 ?_
    refine z_aload_n (pc := 17) hR 0 dX11_image_17 rfl rfl ?_
    refine z_getr (pc := 18) hR (c0 := 14) (r := 14) jf_RX11_43 kxo_0 (by decide) rfl rfl dX11_image_18 ?_
    refine z_callv0 (pc := 21) (rk' := 3) hR (As := [(2, 14)]) (st := []) jm_X9_copyFrom jl_RX11_334 (ke_6 kxa_153 hc2.1 hc2.2) (by decide) rfl (c_Wo_copyFrom N ((153 + 60 + 17 * a1)) 14 M (ke_6 kxa_153 hc2.1 hc2.2) kxo_14) rfl (by decide) (by decide) rfl (Nat.le_of_ble_eq_true rfl) dX11_image_21 (fun M3 => ?_)
    refine z_aload_n (pc := 24) hR 0 dX11_image_24 rfl rfl ?_
    refine z_getr (pc := 25) hR (c0 := 153) (r := 153) jf_RX11_54 kxo_0 (by decide) rfl rfl dX11_image_25 ?_
    refine z_iload_n (pc := 28) hR 1 dX11_image_28 rfl rfl ?_
    refine z_chk (fun hc4 => ?_)
    refine z_aald6 (pc := 29) hR (n := 4) kxa_153 hc4.1 hc4.2 dX11_image_29 ?_
    refine z_iconst (pc := 30) hR dX11_image_30 rfl ?_
    refine z_puti (pc := 31) hR (j := 5) jp_RX11_337 (ke_6 kxa_153 hc4.1 hc4.2) (by decide) rfl rfl (by decide) (by decide) dX11_image_31 (fun M5 => ?_)
    refine z_aload_n (pc := 34) hR 0 dX11_image_34 rfl rfl ?_
    refine z_getr (pc := 35) hR (c0 := 14) (r := 14) jf_RX11_43 kxo_0 (by decide) rfl rfl dX11_image_35 ?_
    refine z_getr (pc := 38) hR (c0 := 7) (r := 21) jf_RX11_102 kxo_14 (by decide) rfl rfl dX11_image_38 ?_
    refine z_geti (pc := 41) hR (j := 1) jf_RX11_188 kxo_21 (by decide) rfl rfl dX11_image_41 ?_
    exact z_ireturn (pc := 44) hR rfl rfl dX11_image_44 rfl
  · refine z_iconst (pc := 9) hR dX11_image_9 rfl ?_
    exact z_ireturn (pc := 10) hR rfl rfl dX11_image_10 rfl
theorem dX11_back_0 : decode cX11_back 0 = .ok (.iload_n 1, 1) := by decide +kernel
theorem dX11_back_1 : decode cX11_back 1 = .ok (.iconst 0, 1) := by decide +kernel
theorem dX11_back_2 : decode cX11_back 2 = .ok (.iconst 3, 1) := by decide +kernel
theorem dX11_back_3 : decode cX11_back 3 = .ok (.invokestatic 137, 3) := by decide +kernel
theorem dX11_back_6 : decode cX11_back 6 = .ok (.ifCond .eq 15, 3) := by decide +kernel
theorem dX11_back_9 : decode cX11_back 9 = .ok (.aload_n 0, 1) := by decide +kernel
theorem dX11_back_10 : decode cX11_back 10 = .ok (.getfield 54, 3) := by decide +kernel
theorem dX11_back_13 : decode cX11_back 13 = .ok (.iload_n 1, 1) := by decide +kernel
theorem dX11_back_14 : decode cX11_back 14 = .ok (.aaload, 1) := by decide +kernel
theorem dX11_back_15 : decode cX11_back 15 = .ok (.getfield 337, 3) := by decide +kernel
theorem dX11_back_18 : decode cX11_back 18 = .ok (.ifCond .ne 5, 3) := by decide +kernel
theorem dX11_back_21 : decode cX11_back 21 = .ok (.iconst (-1), 1) := by decide +kernel
theorem dX11_back_22 : decode cX11_back 22 = .ok (.ireturn, 1) := by decide +kernel
theorem dX11_back_23 : decode cX11_back 23 = .ok (.aload_n 0, 1) := by decide +kernel
theorem dX11_back_24 : decode cX11_back 24 = .ok (.getfield 43, 3) := by decide +kernel
theorem dX11_back_27 : decode cX11_back 27 = .ok (.aload_n 0, 1) := by decide +kernel
theorem dX11_back_28 : decode cX11_back 28 = .ok (.getfield 54, 3) := by decide +kernel
theorem dX11_back_31 : decode cX11_back 31 = .ok (.iload_n 1, 1) := by decide +kernel
theorem dX11_back_32 : decode cX11_back 32 = .ok (.aaload, 1) := by decide +kernel
theorem dX11_back_33 : decode cX11_back 33 = .ok (.invokevirtual 334, 3) := by decide +kernel
theorem dX11_back_36 : decode cX11_back 36 = .ok (.aload_n 0, 1) := by decide +kernel
theorem dX11_back_37 : decode cX11_back 37 = .ok (.getfield 50, 3) := by decide +kernel
theorem dX11_back_40 : decode cX11_back 40 = .ok (.invokevirtual 120, 3) := by decide +kernel
theorem dX11_back_43 : decode cX11_back 43 = .ok (.aload_n 0, 1) := by decide +kernel
theorem dX11_back_44 : decode cX11_back 44 = .ok (.getfield 43, 3) := by decide +kernel
theorem dX11_back_47 : decode cX11_back 47 = .ok (.getfield 102, 3) := by decide +kernel
theorem dX11_back_50 : decode cX11_back 50 = .ok (.getfield 188, 3) := by decide +kernel
theorem dX11_back_53 : decode cX11_back 53 = .ok (.ireturn, 1) := by decide +kernel
def x_back (N : Nat) (a1 : Int) (M : jMem) : Option (Int × jMem) := (x_isWithin N a1 0 3 M).bind fun r1 => (if r1 = 0 then some ((-1), M) else jchk (0 ≤ a1 ∧ a1 < 4) <| (if (M ((153 + 60 + 17 * a1)) 5) = 0 then some ((-1), M) else jchk (0 ≤ a1 ∧ a1 < 4) <| jbv (Wo_copyFrom N 14 ((153 + 60 + 17 * a1)) M) fun M4 => jbv (Ac_forget N M4) fun M5 => some ((M5 21 1), M5)))
theorem c_x_back {l : Launch} {g : jG} (N : Nat) (a1 : Int) (M : jMem)  : ∀ o, x_back N a1 M = some o → jCt l g jTX yX11_back cX11_back 2 (some .int) 0 6 [(2, 0), (0, a1)] M o := by
  refine jMet (own := RX11) (em := id) (L := [(0, 2, 0), (1, 0, a1)]) (by decide +kernel) rfl (Nat.le_of_ble_eq_true rfl) rfl (fun K hR => ?_)
  unfold x_back
  refine z_iload_n (pc := 0) hR 1 dX11_back_0 rfl rfl ?_
  refine z_iconst (pc := 1) hR dX11_back_1 rfl ?_
  refine z_iconst (pc := 2) hR dX11_back_2 rfl ?_
  refine z_callsp (pc := 3) hR (As := [(0, a1), (0, 0), (0, 3)]) (st := []) jm_X11_isWithin jl_RX11_137 (by decide) (c_x_isWithin N a1 0 3 M) rfl (by decide) (by decide) rfl (Nat.le_of_ble_eq_true rfl) dX11_back_3 (fun r1 => ?_)
  refine z_ifeq (pc := 6) (tgt := 21) hR dX11_back_6 (by decide) ?_ ?_
  · refine z_iconst (pc := 21) hR dX11_back_21 rfl ?_
    exact z_ireturn (pc := 22) hR rfl rfl dX11_back_22 rfl
  · refine z_aload_n (pc := 9) hR 0 dX11_back_9 rfl rfl ?_
    refine z_getr (pc := 10) hR (c0 := 153) (r := 153) jf_RX11_54 kxo_0 (by decide) rfl rfl dX11_back_10 ?_
    refine z_iload_n (pc := 13) hR 1 dX11_back_13 rfl rfl ?_
    refine z_chk (fun hc2 => ?_)
    refine z_aald6 (pc := 14) hR (n := 4) kxa_153 hc2.1 hc2.2 dX11_back_14 ?_
    refine z_geti (pc := 15) hR (j := 5) jf_RX11_337 (ke_6 kxa_153 hc2.1 hc2.2) (by decide) rfl rfl dX11_back_15 ?_
    refine z_ifne (pc := 18) (tgt := 23) hR dX11_back_18 (by decide) ?_ ?_
    · refine z_aload_n (pc := 23) hR 0 dX11_back_23 rfl rfl ?_
      refine z_getr (pc := 24) hR (c0 := 14) (r := 14) jf_RX11_43 kxo_0 (by decide) rfl rfl dX11_back_24 ?_
      refine z_aload_n (pc := 27) hR 0 dX11_back_27 rfl rfl ?_
      refine z_getr (pc := 28) hR (c0 := 153) (r := 153) jf_RX11_54 kxo_0 (by decide) rfl rfl dX11_back_28 ?_
      refine z_iload_n (pc := 31) hR 1 dX11_back_31 rfl rfl ?_
      refine z_chk (fun hc3 => ?_)
      refine z_aald6 (pc := 32) hR (n := 4) kxa_153 hc3.1 hc3.2 dX11_back_32 ?_
      refine z_callv0 (pc := 33) (rk' := 3) hR (As := [(2, (153 + 60 + 17 * a1))]) (st := []) jm_X9_copyFrom jl_RX11_334 kxo_14 (by decide) rfl (c_Wo_copyFrom N 14 ((153 + 60 + 17 * a1)) M kxo_14 (ke_6 kxa_153 hc3.1 hc3.2)) rfl (by decide) (by decide) rfl (Nat.le_of_ble_eq_true rfl) dX11_back_33 (fun M4 => ?_)
      refine z_aload_n (pc := 36) hR 0 dX11_back_36 rfl rfl ?_
      refine z_getr (pc := 37) hR (c0 := 31) (r := 31) jf_RX11_50 kxo_0 (by decide) rfl rfl dX11_back_37 ?_
      refine z_callv0 (pc := 40) (rk' := 3) hR (As := []) (st := []) jm_X0_forget jl_RX11_120 kxo_31 (by decide) rfl (c_Ac_forget N M4) rfl (by decide) (by decide) rfl (Nat.le_of_ble_eq_true rfl) dX11_back_40 (fun M5 => ?_)
      refine z_aload_n (pc := 43) hR 0 dX11_back_43 rfl rfl ?_
      refine z_getr (pc := 44) hR (c0 := 14) (r := 14) jf_RX11_43 kxo_0 (by decide) rfl rfl dX11_back_44 ?_
      refine z_getr (pc := 47) hR (c0 := 7) (r := 21) jf_RX11_102 kxo_14 (by decide) rfl rfl dX11_back_47 ?_
      refine z_geti (pc := 50) hR (j := 1) jf_RX11_188 kxo_21 (by decide) rfl rfl dX11_back_50 ?_
      exact z_ireturn (pc := 53) hR rfl rfl dX11_back_53 rfl
    · refine z_iconst (pc := 21) hR dX11_back_21 rfl ?_
      exact z_ireturn (pc := 22) hR rfl rfl dX11_back_22 rfl
theorem dX12_in_0 : decode cX12_in 0 = .ok (.lload_n 0, 1) := by decide +kernel
theorem dX12_in_1 : decode cX12_in 1 = .ok (.lload_n 2, 1) := by decide +kernel
theorem dX12_in_2 : decode cX12_in 2 = .ok (.lcmp, 1) := by decide +kernel
theorem dX12_in_3 : decode cX12_in 3 = .ok (.ifCond .lt 14, 3) := by decide +kernel
theorem dX12_in_6 : decode cX12_in 6 = .ok (.lload_n 0, 1) := by decide +kernel
theorem dX12_in_7 : decode cX12_in 7 = .ok (.lload 4, 2) := by decide +kernel
theorem dX12_in_9 : decode cX12_in 9 = .ok (.lcmp, 1) := by decide +kernel
theorem dX12_in_10 : decode cX12_in 10 = .ok (.ifCond .gt 7, 3) := by decide +kernel
theorem dX12_in_13 : decode cX12_in 13 = .ok (.iconst 1, 1) := by decide +kernel
theorem dX12_in_14 : decode cX12_in 14 = .ok (.goto 4, 3) := by decide +kernel
theorem dX12_in_17 : decode cX12_in 17 = .ok (.iconst 0, 1) := by decide +kernel
theorem dX12_in_18 : decode cX12_in 18 = .ok (.ireturn, 1) := by decide +kernel
def m_in (N : Nat) (a0 a2 a4 : Int) (M : jMem) : Option Int := (if (jcmp a0 a2) < 0 then some 0 else (if 0 < (jcmp a0 a4) then some 0 else some 1))
theorem c_m_in {l : Launch} {g : jG} (N : Nat) (a0 a2 a4 : Int) (M : jMem)  : ∀ o, m_in N a0 a2 a4 M = some o → jCt l g jTM yX12_in cX12_in 6 (some .boolean) 0 1 [(1, a0), (1, a2), (1, a4)] M (o, M) := by
  refine jMet (own := RX12) (em := (fun r => (r, M))) (L := [(0, 1, a0), (2, 1, a2), (4, 1, a4)]) (by decide +kernel) rfl (Nat.le_of_ble_eq_true rfl) rfl (fun K hR => ?_)
  unfold m_in
  refine z_lload_n (pc := 0) hR 0 dX12_in_0 rfl rfl ?_
  refine z_lload_n (pc := 1) hR 1 dX12_in_1 rfl rfl ?_
  refine z_lcmp (pc := 2) hR dX12_in_2 ?_
  refine z_iflt (pc := 3) (tgt := 17) hR dX12_in_3 (by decide) ?_ ?_
  · refine z_iconst (pc := 17) hR dX12_in_17 rfl ?_
    exact z_zreturn (pc := 18) hR rfl rfl (Or.inl rfl) dX12_in_18 rfl
  · refine z_lload_n (pc := 6) hR 0 dX12_in_6 rfl rfl ?_
    refine z_lload (pc := 7) hR 2 dX12_in_7 rfl ?_
    refine z_lcmp (pc := 9) hR dX12_in_9 ?_
    refine z_ifgt (pc := 10) (tgt := 17) hR dX12_in_10 (by decide) ?_ ?_
    · refine z_iconst (pc := 17) hR dX12_in_17 rfl ?_
      exact z_zreturn (pc := 18) hR rfl rfl (Or.inl rfl) dX12_in_18 rfl
    · refine z_iconst (pc := 13) hR dX12_in_13 rfl ?_
      refine z_goto (pc := 14) (tgt := 18) hR dX12_in_14 (by decide) ?_
      exact z_zreturn (pc := 18) hR rfl rfl (Or.inr rfl) dX12_in_18 rfl
theorem dX12_isOf_0 : decode cX12_isOf 0 = .ok (.iload_n 0, 1) := by decide +kernel
theorem dX12_isOf_1 : decode cX12_isOf 1 = .ok (.iload_n 1, 1) := by decide +kernel
theorem dX12_isOf_2 : decode cX12_isOf 2 = .ok (.ishr, 1) := by decide +kernel
theorem dX12_isOf_3 : decode cX12_isOf 3 = .ok (.iconst 1, 1) := by decide +kernel
theorem dX12_isOf_4 : decode cX12_isOf 4 = .ok (.iand, 1) := by decide +kernel
theorem dX12_isOf_5 : decode cX12_isOf 5 = .ok (.iconst 1, 1) := by decide +kernel
theorem dX12_isOf_6 : decode cX12_isOf 6 = .ok (.if_icmp .ne 7, 3) := by decide +kernel
theorem dX12_isOf_9 : decode cX12_isOf 9 = .ok (.iconst 1, 1) := by decide +kernel
theorem dX12_isOf_10 : decode cX12_isOf 10 = .ok (.goto 4, 3) := by decide +kernel
theorem dX12_isOf_13 : decode cX12_isOf 13 = .ok (.iconst 0, 1) := by decide +kernel
theorem dX12_isOf_14 : decode cX12_isOf 14 = .ok (.ireturn, 1) := by decide +kernel
def m_isOf (N : Nat) (a0 a1 : Int) (M : jMem) : Option Int := (if (jand ((jshr a0 a1)) 1) = 1 then some 1 else some 0)
theorem c_m_isOf {l : Launch} {g : jG} (N : Nat) (a0 a1 : Int) (M : jMem)  : ∀ o, m_isOf N a0 a1 M = some o → jCt l g jTM yX12_isOf cX12_isOf 2 (some .boolean) 0 1 [(0, a0), (0, a1)] M (o, M) := by
  refine jMet (own := RX12) (em := (fun r => (r, M))) (L := [(0, 0, a0), (1, 0, a1)]) (by decide +kernel) rfl (Nat.le_of_ble_eq_true rfl) rfl (fun K hR => ?_)
  unfold m_isOf
  refine z_iload_n (pc := 0) hR 0 dX12_isOf_0 rfl rfl ?_
  refine z_iload_n (pc := 1) hR 1 dX12_isOf_1 rfl rfl ?_
  refine z_ishr (pc := 2) hR dX12_isOf_2 ?_
  refine z_iconst (pc := 3) hR dX12_isOf_3 rfl ?_
  refine z_iand (pc := 4) hR dX12_isOf_4 ?_
  refine z_iconst (pc := 5) hR dX12_isOf_5 rfl ?_
  refine z_icmpne (pc := 6) (tgt := 13) hR dX12_isOf_6 (by decide) ?_ ?_
  · refine z_iconst (pc := 13) hR dX12_isOf_13 rfl ?_
    exact z_zreturn (pc := 14) hR rfl rfl (Or.inl rfl) dX12_isOf_14 rfl
  · refine z_iconst (pc := 9) hR dX12_isOf_9 rfl ?_
    refine z_goto (pc := 10) (tgt := 14) hR dX12_isOf_10 (by decide) ?_
    exact z_zreturn (pc := 14) hR rfl rfl (Or.inr rfl) dX12_isOf_14 rfl
theorem dX12_bits_0 : decode cX12_bits 0 = .ok (.iconst 0, 1) := by decide +kernel
theorem dX12_bits_1 : decode cX12_bits 1 = .ok (.istore_n 1, 1) := by decide +kernel
theorem dX12_bits_2 : decode cX12_bits 2 = .ok (.iload_n 0, 1) := by decide +kernel
theorem dX12_bits_3 : decode cX12_bits 3 = .ok (.istore_n 2, 1) := by decide +kernel
theorem dX12_bits_4 : decode cX12_bits 4 = .ok (.iload_n 2, 1) := by decide +kernel
theorem dX12_bits_5 : decode cX12_bits 5 = .ok (.ifCond .eq 15, 3) := by decide +kernel
theorem dX12_bits_8 : decode cX12_bits 8 = .ok (.iinc 1 1, 3) := by decide +kernel
theorem dX12_bits_11 : decode cX12_bits 11 = .ok (.iload_n 2, 1) := by decide +kernel
theorem dX12_bits_12 : decode cX12_bits 12 = .ok (.iload_n 2, 1) := by decide +kernel
theorem dX12_bits_13 : decode cX12_bits 13 = .ok (.iconst 1, 1) := by decide +kernel
theorem dX12_bits_14 : decode cX12_bits 14 = .ok (.isub, 1) := by decide +kernel
theorem dX12_bits_15 : decode cX12_bits 15 = .ok (.iand, 1) := by decide +kernel
theorem dX12_bits_16 : decode cX12_bits 16 = .ok (.istore_n 2, 1) := by decide +kernel
theorem dX12_bits_17 : decode cX12_bits 17 = .ok (.goto (-13), 3) := by decide +kernel
theorem dX12_bits_20 : decode cX12_bits 20 = .ok (.iload_n 1, 1) := by decide +kernel
theorem dX12_bits_21 : decode cX12_bits 21 = .ok (.ireturn, 1) := by decide +kernel
def m_bits_L4 (N : Nat)  (h4 : (Int × Int) → Option Int) : Int × Int → Option Int
  | (x1, x2) => (if x2 = 0 then some x1 else jlt ((jand x2 ((w32 (x2 - 1))))) fun v3 => h4 ((w32 (x1 + 1)), v3))
def m_bits (N : Nat) (a0 : Int) (M : jMem) : Option Int := jfix N (m_bits_L4 N) (0, a0)
theorem c_m_bits {l : Launch} {g : jG} (N : Nat) (a0 : Int) (M : jMem)  : ∀ o, m_bits N a0 M = some o → jCt l g jTM yX12_bits cX12_bits 3 (some .int) 0 1 [(0, a0)] M (o, M) := by
  refine jMet (own := RX12) (em := (fun r => (r, M))) (L := [(0, 0, a0)]) (by decide +kernel) rfl (Nat.le_of_ble_eq_true rfl) rfl (fun K hR => ?_)
  unfold m_bits
  refine z_iconst (pc := 0) hR dX12_bits_0 rfl ?_
  refine z_istore_n (pc := 1) hR (lv' := [(1, 0, 0), (0, 0, a0)]) dX12_bits_1 rfl (by decide) rfl ?_
  refine z_iload_n (pc := 2) hR 1 dX12_bits_2 rfl rfl ?_
  refine z_istore_n (pc := 3) hR (lv' := [(2, 0, a0), (1, 0, 0), (0, 0, a0)]) dX12_bits_3 rfl (by decide) rfl ?_
  refine z_pick (pc := 4) (lv' := [(1, 0, 0), (2, 0, a0)]) hR [1, 0] rfl ?_
  refine z_fix (σ := Int × Int) (lv := fun s => [(1, 0, s.1), (2, 0, s.2)]) (st := fun _ => []) (M := fun _ => M) (fun h4 hh4 => ?_) N (0, a0)
  rintro ⟨x1, x2⟩
  show jZ K (fun r => (r, M)) 4 [(1, 0, x1), (2, 0, x2)] [] M _
  unfold m_bits_L4
  refine z_iload_n (pc := 4) hR 1 dX12_bits_4 rfl rfl ?_
  refine z_ifeq (pc := 5) (tgt := 20) hR dX12_bits_5 (by decide) ?_ ?_
  · refine z_iload_n (pc := 20) hR 0 dX12_bits_20 rfl rfl ?_
    exact z_ireturn (pc := 21) hR rfl rfl dX12_bits_21 rfl
  · refine z_iinc (pc := 8) hR (j := 0) (lv' := [(1, 0, (w32 (x1 + 1))), (2, 0, x2)]) dX12_bits_8 rfl (by decide) rfl ?_
    refine z_iload_n (pc := 11) hR 1 dX12_bits_11 rfl rfl ?_
    refine z_iload_n (pc := 12) hR 1 dX12_bits_12 rfl rfl ?_
    refine z_iconst (pc := 13) hR dX12_bits_13 rfl ?_
    refine z_isub (pc := 14) hR dX12_bits_14 ?_
    refine z_iand (pc := 15) hR dX12_bits_15 ?_
    refine z_let1 (fun v3 => ?_)
    refine z_istore_n (pc := 16) hR (lv' := [(2, 0, v3), (1, 0, (w32 (x1 + 1)))]) dX12_bits_16 rfl (by decide) rfl ?_
    refine z_goto (pc := 17) (tgt := 4) hR dX12_bits_17 (by decide) ?_
    refine z_pick (pc := 4) (lv' := [(1, 0, (w32 (x1 + 1))), (2, 0, v3)]) hR [1, 0] rfl ?_
    exact hh4 ((w32 (x1 + 1)), v3)
theorem dX12_four_0 : decode cX12_four 0 = .ok (.bipush 24, 2) := by decide +kernel
theorem dX12_four_2 : decode cX12_four 2 = .ok (.istore_n 2, 1) := by decide +kernel
theorem dX12_four_3 : decode cX12_four 3 = .ok (.iload_n 2, 1) := by decide +kernel
theorem dX12_four_4 : decode cX12_four 4 = .ok (.ifCond .lt 32, 3) := by decide +kernel
theorem dX12_four_7 : decode cX12_four 7 = .ok (.aload_n 0, 1) := by decide +kernel
theorem dX12_four_8 : decode cX12_four 8 = .ok (.getfield 7, 3) := by decide +kernel
theorem dX12_four_11 : decode cX12_four 11 = .ok (.aload_n 0, 1) := by decide +kernel
theorem dX12_four_12 : decode cX12_four 12 = .ok (.getfield 89, 3) := by decide +kernel
theorem dX12_four_15 : decode cX12_four 15 = .ok (.iload_n 1, 1) := by decide +kernel
theorem dX12_four_16 : decode cX12_four 16 = .ok (.iload_n 2, 1) := by decide +kernel
theorem dX12_four_17 : decode cX12_four 17 = .ok (.ishr, 1) := by decide +kernel
theorem dX12_four_18 : decode cX12_four 18 = .ok (.i2b, 1) := by decide +kernel
theorem dX12_four_19 : decode cX12_four 19 = .ok (.bastore, 1) := by decide +kernel
theorem dX12_four_20 : decode cX12_four 20 = .ok (.aload_n 0, 1) := by decide +kernel
theorem dX12_four_21 : decode cX12_four 21 = .ok (.dup, 1) := by decide +kernel
theorem dX12_four_22 : decode cX12_four 22 = .ok (.getfield 89, 3) := by decide +kernel
theorem dX12_four_25 : decode cX12_four 25 = .ok (.iconst 1, 1) := by decide +kernel
theorem dX12_four_26 : decode cX12_four 26 = .ok (.iadd, 1) := by decide +kernel
theorem dX12_four_27 : decode cX12_four 27 = .ok (.putfield 89, 3) := by decide +kernel
theorem dX12_four_30 : decode cX12_four 30 = .ok (.iinc 2 (-8), 3) := by decide +kernel
theorem dX12_four_33 : decode cX12_four 33 = .ok (.goto (-30), 3) := by decide +kernel
theorem dX12_four_36 : decode cX12_four 36 = .ok (.return_, 1) := by decide +kernel
def m_four_L3 (N : Nat) (a1 : Int) (h3 : (Int × jMem) → Option (Int × jMem)) : Int × jMem → Option (Int × jMem)
  | (x1, M2) => (if x1 < 0 then some (0, M2) else jchk (0 ≤ (M2 0 1) ∧ (M2 0 1) < 400) <| jlt (up M2 1 ((M2 0 1)) (w8 ((w8 ((jshr a1 x1)))))) fun M4 => jlt (up M4 0 1 ((w32 (((M4 0 1)) + 1)))) fun M5 => h3 ((w32 (x1 + (-8))), M5))
def m_four (N : Nat) (a1 : Int) (M : jMem) : Option (Int × jMem) := jfix N (m_four_L3 N a1) (24, M)
theorem c_m_four {l : Launch} {g : jG} (N : Nat) (a1 : Int) (M : jMem)  : ∀ o, m_four N a1 M = some o → jCt l g jTM yX12_four cX12_four 3 none 3 1 [(2, 0), (0, a1)] M o := by
  refine jMet (own := RX12) (em := id) (L := [(0, 2, 0), (1, 0, a1)]) (by decide +kernel) rfl (Nat.le_of_ble_eq_true rfl) rfl (fun K hR => ?_)
  unfold m_four
  refine z_bipush (pc := 0) hR dX12_four_0 rfl ?_
  refine z_istore_n (pc := 2) hR (lv' := [(2, 0, 24), (0, 2, 0), (1, 0, a1)]) dX12_four_2 rfl (by decide) rfl ?_
  refine z_pick (pc := 3) (lv' := [(0, 2, 0), (1, 0, a1), (2, 0, 24)]) hR [1, 2, 0] rfl ?_
  refine z_fix (σ := Int × jMem) (lv := fun s => [(0, 2, 0), (1, 0, a1), (2, 0, s.1)]) (st := fun _ => []) (M := fun s => s.2) (fun h3 hh3 => ?_) N (24, M)
  rintro ⟨x1, M2⟩
  show jZ K id 3 [(0, 2, 0), (1, 0, a1), (2, 0, x1)] [] M2 _
  unfold m_four_L3
  refine z_iload_n (pc := 3) hR 2 dX12_four_3 rfl rfl ?_
  refine z_iflt (pc := 4) (tgt := 36) hR dX12_four_4 (by decide) ?_ ?_
  · exact z_return (x := 0) (pc := 36) hR rfl rfl dX12_four_36 rfl
  · refine z_aload_n (pc := 7) hR 0 dX12_four_7 rfl rfl ?_
    refine z_getr (pc := 8) hR (c0 := 1) (r := 1) jf_RX12_7 kmo_0 (by decide) rfl rfl dX12_four_8 ?_
    refine z_aload_n (pc := 11) hR 0 dX12_four_11 rfl rfl ?_
    refine z_geti (pc := 12) hR (j := 1) jf_RX12_89 kmo_0 (by decide) rfl rfl dX12_four_12 ?_
    refine z_iload_n (pc := 15) hR 1 dX12_four_15 rfl rfl ?_
    refine z_iload_n (pc := 16) hR 2 dX12_four_16 rfl rfl ?_
    refine z_ishr (pc := 17) hR dX12_four_17 ?_
    refine z_i2b (pc := 18) hR dX12_four_18 ?_
    refine z_chk (fun hc3 => ?_)
    refine z_bast (pc := 19) hR (n := 400) kma_1 hc3.1 hc3.2 dX12_four_19 (fun M4 => ?_)
    refine z_aload_n (pc := 20) hR 0 dX12_four_20 rfl rfl ?_
    refine z_dup (pc := 21) hR dX12_four_21 (by decide) ?_
    refine z_geti (pc := 22) hR (j := 1) jf_RX12_89 kmo_0 (by decide) rfl rfl dX12_four_22 ?_
    refine z_iconst (pc := 25) hR dX12_four_25 rfl ?_
    refine z_iadd (pc := 26) hR dX12_four_26 ?_
    refine z_puti (pc := 27) hR (j := 1) jp_RX12_89 kmo_0 (by decide) rfl rfl rfl rfl dX12_four_27 (fun M5 => ?_)
    refine z_iinc (pc := 30) hR (j := 2) (lv' := [(2, 0, (w32 (x1 + (-8)))), (0, 2, 0), (1, 0, a1)]) dX12_four_30 rfl (by decide) rfl ?_
    refine z_goto (pc := 33) (tgt := 3) hR dX12_four_33 (by decide) ?_
    refine z_pick (pc := 3) (lv' := [(0, 2, 0), (1, 0, a1), (2, 0, (w32 (x1 + (-8))))]) hR [1, 2, 0] rfl ?_
    exact hh3 ((w32 (x1 + (-8))), M5)
theorem dX12_feed_0 : decode cX12_feed 0 = .ok (.aload_n 0, 1) := by decide +kernel
theorem dX12_feed_1 : decode cX12_feed 1 = .ok (.getfield 89, 3) := by decide +kernel
theorem dX12_feed_4 : decode cX12_feed 4 = .ok (.bipush 20, 2) := by decide +kernel
theorem dX12_feed_6 : decode cX12_feed 6 = .ok (.iadd, 1) := by decide +kernel
theorem dX12_feed_7 : decode cX12_feed 7 = .ok (.sipush 400, 3) := by decide +kernel
theorem dX12_feed_10 : decode cX12_feed 10 = .ok (.if_icmp .le 5, 3) := by decide +kernel
theorem dX12_feed_13 : decode cX12_feed 13 = .ok (.iconst (-1), 1) := by decide +kernel
theorem dX12_feed_14 : decode cX12_feed 14 = .ok (.ireturn, 1) := by decide +kernel
theorem dX12_feed_15 : decode cX12_feed 15 = .ok (.aload_n 0, 1) := by decide +kernel
theorem dX12_feed_16 : decode cX12_feed 16 = .ok (.iload_n 1, 1) := by decide +kernel
theorem dX12_feed_17 : decode cX12_feed 17 = .ok (.invokevirtual 92, 3) := by decide +kernel
theorem dX12_feed_20 : decode cX12_feed 20 = .ok (.aload_n 0, 1) := by decide +kernel
theorem dX12_feed_21 : decode cX12_feed 21 = .ok (.iload_n 2, 1) := by decide +kernel
theorem dX12_feed_22 : decode cX12_feed 22 = .ok (.invokevirtual 92, 3) := by decide +kernel
theorem dX12_feed_25 : decode cX12_feed 25 = .ok (.aload_n 0, 1) := by decide +kernel
theorem dX12_feed_26 : decode cX12_feed 26 = .ok (.iload_n 3, 1) := by decide +kernel
theorem dX12_feed_27 : decode cX12_feed 27 = .ok (.invokevirtual 92, 3) := by decide +kernel
theorem dX12_feed_30 : decode cX12_feed 30 = .ok (.aload_n 0, 1) := by decide +kernel
theorem dX12_feed_31 : decode cX12_feed 31 = .ok (.iload 4, 2) := by decide +kernel
theorem dX12_feed_33 : decode cX12_feed 33 = .ok (.invokevirtual 92, 3) := by decide +kernel
theorem dX12_feed_36 : decode cX12_feed 36 = .ok (.aload_n 0, 1) := by decide +kernel
theorem dX12_feed_37 : decode cX12_feed 37 = .ok (.iload 5, 2) := by decide +kernel
theorem dX12_feed_39 : decode cX12_feed 39 = .ok (.invokevirtual 92, 3) := by decide +kernel
theorem dX12_feed_42 : decode cX12_feed 42 = .ok (.aload_n 0, 1) := by decide +kernel
theorem dX12_feed_43 : decode cX12_feed 43 = .ok (.getfield 89, 3) := by decide +kernel
theorem dX12_feed_46 : decode cX12_feed 46 = .ok (.ireturn, 1) := by decide +kernel
def m_feed (N : Nat) (a1 a2 a3 a4 a5 : Int) (M : jMem) : Option (Int × jMem) := (if 400 < (w32 (((M 0 1)) + 20)) then some ((-1), M) else jbv (m_four N a1 M) fun M1 => jbv (m_four N a2 M1) fun M2 => jbv (m_four N a3 M2) fun M3 => jbv (m_four N a4 M3) fun M4 => jbv (m_four N a5 M4) fun M5 => some ((M5 0 1), M5))
theorem c_m_feed {l : Launch} {g : jG} (N : Nat) (a1 a2 a3 a4 a5 : Int) (M : jMem)  : ∀ o, m_feed N a1 a2 a3 a4 a5 M = some o → jCt l g jTM yX12_feed cX12_feed 6 (some .int) 0 3 [(2, 0), (0, a1), (0, a2), (0, a3), (0, a4), (0, a5)] M o := by
  refine jMet (own := RX12) (em := id) (L := [(0, 2, 0), (1, 0, a1), (2, 0, a2), (3, 0, a3), (4, 0, a4), (5, 0, a5)]) (by decide +kernel) rfl (Nat.le_of_ble_eq_true rfl) rfl (fun K hR => ?_)
  unfold m_feed
  refine z_aload_n (pc := 0) hR 0 dX12_feed_0 rfl rfl ?_
  refine z_geti (pc := 1) hR (j := 1) jf_RX12_89 kmo_0 (by decide) rfl rfl dX12_feed_1 ?_
  refine z_bipush (pc := 4) hR dX12_feed_4 rfl ?_
  refine z_iadd (pc := 6) hR dX12_feed_6 ?_
  refine z_sipush (pc := 7) hR dX12_feed_7 rfl ?_
  refine z_icmple (pc := 10) (tgt := 15) hR dX12_feed_10 (by decide) ?_ ?_
  · refine z_aload_n (pc := 15) hR 0 dX12_feed_15 rfl rfl ?_
    refine z_iload_n (pc := 16) hR 1 dX12_feed_16 rfl rfl ?_
    refine z_callv0 (pc := 17) (rk' := 3) hR (As := [(0, a1)]) (st := []) jm_X12_four jl_RX12_92 kmo_0 (by decide) rfl (c_m_four N a1 M) rfl (by decide) (by decide) rfl (Nat.le_of_ble_eq_true rfl) dX12_feed_17 (fun M1 => ?_)
    refine z_aload_n (pc := 20) hR 0 dX12_feed_20 rfl rfl ?_
    refine z_iload_n (pc := 21) hR 2 dX12_feed_21 rfl rfl ?_
    refine z_callv0 (pc := 22) (rk' := 3) hR (As := [(0, a2)]) (st := []) jm_X12_four jl_RX12_92 kmo_0 (by decide) rfl (c_m_four N a2 M1) rfl (by decide) (by decide) rfl (Nat.le_of_ble_eq_true rfl) dX12_feed_22 (fun M2 => ?_)
    refine z_aload_n (pc := 25) hR 0 dX12_feed_25 rfl rfl ?_
    refine z_iload_n (pc := 26) hR 3 dX12_feed_26 rfl rfl ?_
    refine z_callv0 (pc := 27) (rk' := 3) hR (As := [(0, a3)]) (st := []) jm_X12_four jl_RX12_92 kmo_0 (by decide) rfl (c_m_four N a3 M2) rfl (by decide) (by decide) rfl (Nat.le_of_ble_eq_true rfl) dX12_feed_27 (fun M3 => ?_)
    refine z_aload_n (pc := 30) hR 0 dX12_feed_30 rfl rfl ?_
    refine z_iload (pc := 31) hR 4 dX12_feed_31 rfl ?_
    refine z_callv0 (pc := 33) (rk' := 3) hR (As := [(0, a4)]) (st := []) jm_X12_four jl_RX12_92 kmo_0 (by decide) rfl (c_m_four N a4 M3) rfl (by decide) (by decide) rfl (Nat.le_of_ble_eq_true rfl) dX12_feed_33 (fun M4 => ?_)
    refine z_aload_n (pc := 36) hR 0 dX12_feed_36 rfl rfl ?_
    refine z_iload (pc := 37) hR 5 dX12_feed_37 rfl ?_
    refine z_callv0 (pc := 39) (rk' := 3) hR (As := [(0, a5)]) (st := []) jm_X12_four jl_RX12_92 kmo_0 (by decide) rfl (c_m_four N a5 M4) rfl (by decide) (by decide) rfl (Nat.le_of_ble_eq_true rfl) dX12_feed_39 (fun M5 => ?_)
    refine z_aload_n (pc := 42) hR 0 dX12_feed_42 rfl rfl ?_
    refine z_geti (pc := 43) hR (j := 1) jf_RX12_89 kmo_0 (by decide) rfl rfl dX12_feed_43 ?_
    exact z_ireturn (pc := 46) hR rfl rfl dX12_feed_46 rfl
  · refine z_iconst (pc := 13) hR dX12_feed_13 rfl ?_
    exact z_ireturn (pc := 14) hR rfl rfl dX12_feed_14 rfl
theorem dX12_end_0 : decode cX12_end 0 = .ok (.iload_n 1, 1) := by decide +kernel
theorem dX12_end_1 : decode cX12_end 1 = .ok (.ifCond .lt 11, 3) := by decide +kernel
theorem dX12_end_4 : decode cX12_end 4 = .ok (.iload_n 1, 1) := by decide +kernel
theorem dX12_end_5 : decode cX12_end 5 = .ok (.aload_n 0, 1) := by decide +kernel
theorem dX12_end_6 : decode cX12_end 6 = .ok (.getfield 89, 3) := by decide +kernel
theorem dX12_end_9 : decode cX12_end 9 = .ok (.if_icmp .le 5, 3) := by decide +kernel
theorem dX12_end_12 : decode cX12_end 12 = .ok (.iconst (-1), 1) := by decide +kernel
theorem dX12_end_13 : decode cX12_end 13 = .ok (.ireturn, 1) := by decide +kernel
theorem dX12_end_14 : decode cX12_end 14 = .ok (.aload_n 0, 1) := by decide +kernel
theorem dX12_end_15 : decode cX12_end 15 = .ok (.iload_n 1, 1) := by decide +kernel
theorem dX12_end_16 : decode cX12_end 16 = .ok (.putfield 89, 3) := by decide +kernel
theorem dX12_end_19 : decode cX12_end 19 = .ok (.iload_n 1, 1) := by decide +kernel
theorem dX12_end_20 : decode cX12_end 20 = .ok (.ireturn, 1) := by decide +kernel
def m_end (N : Nat) (a1 : Int) (M : jMem) : Option (Int × jMem) := (if a1 < 0 then some ((-1), M) else (if (M 0 1) < a1 then some ((-1), M) else jlt (up M 0 1 a1) fun M1 => some (a1, M1)))
theorem c_m_end {l : Launch} {g : jG} (N : Nat) (a1 : Int) (M : jMem)  : ∀ o, m_end N a1 M = some o → jCt l g jTM yX12_end cX12_end 2 (some .int) 0 1 [(2, 0), (0, a1)] M o := by
  refine jMet (own := RX12) (em := id) (L := [(0, 2, 0), (1, 0, a1)]) (by decide +kernel) rfl (Nat.le_of_ble_eq_true rfl) rfl (fun K hR => ?_)
  unfold m_end
  refine z_iload_n (pc := 0) hR 1 dX12_end_0 rfl rfl ?_
  refine z_iflt (pc := 1) (tgt := 12) hR dX12_end_1 (by decide) ?_ ?_
  · refine z_iconst (pc := 12) hR dX12_end_12 rfl ?_
    exact z_ireturn (pc := 13) hR rfl rfl dX12_end_13 rfl
  · refine z_iload_n (pc := 4) hR 1 dX12_end_4 rfl rfl ?_
    refine z_aload_n (pc := 5) hR 0 dX12_end_5 rfl rfl ?_
    refine z_geti (pc := 6) hR (j := 1) jf_RX12_89 kmo_0 (by decide) rfl rfl dX12_end_6 ?_
    refine z_icmple (pc := 9) (tgt := 14) hR dX12_end_9 (by decide) ?_ ?_
    · refine z_aload_n (pc := 14) hR 0 dX12_end_14 rfl rfl ?_
      refine z_iload_n (pc := 15) hR 1 dX12_end_15 rfl rfl ?_
      refine z_puti (pc := 16) hR (j := 1) jp_RX12_89 kmo_0 (by decide) rfl rfl rfl rfl dX12_end_16 (fun M1 => ?_)
      refine z_iload_n (pc := 19) hR 1 dX12_end_19 rfl rfl ?_
      exact z_ireturn (pc := 20) hR rfl rfl dX12_end_20 rfl
    · refine z_iconst (pc := 12) hR dX12_end_12 rfl ?_
      exact z_ireturn (pc := 13) hR rfl rfl dX12_end_13 rfl
theorem dX12_fails_0 : decode cX12_fails 0 = .ok (.aload_n 0, 1) := by decide +kernel
theorem dX12_fails_1 : decode cX12_fails 1 = .ok (.getfield 96, 3) := by decide +kernel
theorem dX12_fails_4 : decode cX12_fails 4 = .ok (.ifCond .ne 15, 3) := by decide +kernel
theorem dX12_fails_7 : decode cX12_fails 7 = .ok (.aload_n 0, 1) := by decide +kernel
theorem dX12_fails_8 : decode cX12_fails 8 = .ok (.iconst 1, 1) := by decide +kernel
theorem dX12_fails_9 : decode cX12_fails 9 = .ok (.bipush 8, 2) := by decide +kernel
theorem dX12_fails_11 : decode cX12_fails 11 = .ok (.iload_n 2, 1) := by decide +kernel
theorem dX12_fails_12 : decode cX12_fails 12 = .ok (.imul, 1) := by decide +kernel
theorem dX12_fails_13 : decode cX12_fails 13 = .ok (.iadd, 1) := by decide +kernel
theorem dX12_fails_14 : decode cX12_fails 14 = .ok (.iload_n 1, 1) := by decide +kernel
theorem dX12_fails_15 : decode cX12_fails 15 = .ok (.iadd, 1) := by decide +kernel
theorem dX12_fails_16 : decode cX12_fails 16 = .ok (.putfield 96, 3) := by decide +kernel
theorem dX12_fails_19 : decode cX12_fails 19 = .ok (.iconst 0, 1) := by decide +kernel
theorem dX12_fails_20 : decode cX12_fails 20 = .ok (.ireturn, 1) := by decide +kernel
def m_fails (N : Nat) (a1 a2 : Int) (M : jMem) : Option (Int × jMem) := (if (M 0 9) = 0 then jlt (up M 0 9 ((w32 (((w32 (1 + ((w32 (8 * a2)))))) + a1)))) fun M1 => some (0, M1) else some (0, M))
theorem c_m_fails {l : Launch} {g : jG} (N : Nat) (a1 a2 : Int) (M : jMem)  : ∀ o, m_fails N a1 a2 M = some o → jCt l g jTM yX12_fails cX12_fails 3 (some .boolean) 0 1 [(2, 0), (0, a1), (0, a2)] M o := by
  refine jMet (own := RX12) (em := id) (L := [(0, 2, 0), (1, 0, a1), (2, 0, a2)]) (by decide +kernel) rfl (Nat.le_of_ble_eq_true rfl) rfl (fun K hR => ?_)
  unfold m_fails
  refine z_aload_n (pc := 0) hR 0 dX12_fails_0 rfl rfl ?_
  refine z_geti (pc := 1) hR (j := 9) jf_RX12_96 kmo_0 (by decide) rfl rfl dX12_fails_1 ?_
  refine z_ifne (pc := 4) (tgt := 19) hR dX12_fails_4 (by decide) ?_ ?_
  · refine z_iconst (pc := 19) hR dX12_fails_19 rfl ?_
    exact z_zreturn (pc := 20) hR rfl rfl (Or.inl rfl) dX12_fails_20 rfl
  · refine z_aload_n (pc := 7) hR 0 dX12_fails_7 rfl rfl ?_
    refine z_iconst (pc := 8) hR dX12_fails_8 rfl ?_
    refine z_bipush (pc := 9) hR dX12_fails_9 rfl ?_
    refine z_iload_n (pc := 11) hR 2 dX12_fails_11 rfl rfl ?_
    refine z_imul (pc := 12) hR dX12_fails_12 ?_
    refine z_iadd (pc := 13) hR dX12_fails_13 ?_
    refine z_iload_n (pc := 14) hR 1 dX12_fails_14 rfl rfl ?_
    refine z_iadd (pc := 15) hR dX12_fails_15 ?_
    refine z_puti (pc := 16) hR (j := 9) jp_RX12_96 kmo_0 (by decide) rfl rfl rfl rfl dX12_fails_16 (fun M1 => ?_)
    refine z_iconst (pc := 19) hR dX12_fails_19 rfl ?_
    exact z_zreturn (pc := 20) hR rfl rfl (Or.inl rfl) dX12_fails_20 rfl
theorem dX12_see_0 : decode cX12_see 0 = .ok (.aload_n 0, 1) := by decide +kernel
theorem dX12_see_1 : decode cX12_see 1 = .ok (.getfield 99, 3) := by decide +kernel
theorem dX12_see_4 : decode cX12_see 4 = .ok (.aload_n 0, 1) := by decide +kernel
theorem dX12_see_5 : decode cX12_see 5 = .ok (.getfield 89, 3) := by decide +kernel
theorem dX12_see_8 : decode cX12_see 8 = .ok (.if_icmp .ge 30, 3) := by decide +kernel
theorem dX12_see_11 : decode cX12_see 11 = .ok (.aload_n 0, 1) := by decide +kernel
theorem dX12_see_12 : decode cX12_see 12 = .ok (.getfield 7, 3) := by decide +kernel
theorem dX12_see_15 : decode cX12_see 15 = .ok (.aload_n 0, 1) := by decide +kernel
theorem dX12_see_16 : decode cX12_see 16 = .ok (.getfield 99, 3) := by decide +kernel
theorem dX12_see_19 : decode cX12_see 19 = .ok (.baload, 1) := by decide +kernel
theorem dX12_see_20 : decode cX12_see 20 = .ok (.bipush 32, 2) := by decide +kernel
theorem dX12_see_22 : decode cX12_see 22 = .ok (.if_icmp .ne 16, 3) := by decide +kernel
theorem dX12_see_25 : decode cX12_see 25 = .ok (.aload_n 0, 1) := by decide +kernel
theorem dX12_see_26 : decode cX12_see 26 = .ok (.dup, 1) := by decide +kernel
theorem dX12_see_27 : decode cX12_see 27 = .ok (.getfield 99, 3) := by decide +kernel
theorem dX12_see_30 : decode cX12_see 30 = .ok (.iconst 1, 1) := by decide +kernel
theorem dX12_see_31 : decode cX12_see 31 = .ok (.iadd, 1) := by decide +kernel
theorem dX12_see_32 : decode cX12_see 32 = .ok (.putfield 99, 3) := by decide +kernel
theorem dX12_see_35 : decode cX12_see 35 = .ok (.goto (-35), 3) := by decide +kernel
theorem dX12_see_38 : decode cX12_see 38 = .ok (.aload_n 0, 1) := by decide +kernel
theorem dX12_see_39 : decode cX12_see 39 = .ok (.getfield 99, 3) := by decide +kernel
theorem dX12_see_42 : decode cX12_see 42 = .ok (.aload_n 0, 1) := by decide +kernel
theorem dX12_see_43 : decode cX12_see 43 = .ok (.getfield 89, 3) := by decide +kernel
theorem dX12_see_46 : decode cX12_see 46 = .ok (.if_icmp .ge 19, 3) := by decide +kernel
theorem dX12_see_49 : decode cX12_see 49 = .ok (.aload_n 0, 1) := by decide +kernel
theorem dX12_see_50 : decode cX12_see 50 = .ok (.getfield 7, 3) := by decide +kernel
theorem dX12_see_53 : decode cX12_see 53 = .ok (.aload_n 0, 1) := by decide +kernel
theorem dX12_see_54 : decode cX12_see 54 = .ok (.getfield 99, 3) := by decide +kernel
theorem dX12_see_57 : decode cX12_see 57 = .ok (.baload, 1) := by decide +kernel
theorem dX12_see_58 : decode cX12_see 58 = .ok (.sipush 255, 3) := by decide +kernel
theorem dX12_see_61 : decode cX12_see 61 = .ok (.iand, 1) := by decide +kernel
theorem dX12_see_62 : decode cX12_see 62 = .ok (.goto 4, 3) := by decide +kernel
theorem dX12_see_65 : decode cX12_see 65 = .ok (.iconst (-1), 1) := by decide +kernel
theorem dX12_see_66 : decode cX12_see 66 = .ok (.ireturn, 1) := by decide +kernel
def m_see_L0 (N : Nat)  (h0 : jMem → Option (Int × jMem)) : jMem → Option (Int × jMem)
  | M1 => jlt (fun (_ : Unit) => (if (M1 0 8) < (M1 0 1) then jchk (0 ≤ (M1 0 8) ∧ (M1 0 8) < 400) <| some ((jand ((M1 1 ((M1 0 8)))) 255), M1) else some ((-1), M1))) fun j38 => (if (M1 0 8) < (M1 0 1) then jchk (0 ≤ (M1 0 8) ∧ (M1 0 8) < 400) <| (if (M1 1 ((M1 0 8))) = 32 then jlt (up M1 0 8 ((w32 (((M1 0 8)) + 1)))) fun M4 => h0 M4 else j38 ()) else j38 ())
def m_see (N : Nat) (M : jMem) : Option (Int × jMem) := jfix N (m_see_L0 N) M
theorem c_m_see {l : Launch} {g : jG} (N : Nat) (M : jMem)  : ∀ o, m_see N  M = some o → jCt l g jTM yX12_see cX12_see 1 (some .int) 0 1 [(2, 0)] M o := by
  refine jMet (own := RX12) (em := id) (L := [(0, 2, 0)]) (by decide +kernel) rfl (Nat.le_of_ble_eq_true rfl) rfl (fun K hR => ?_)
  unfold m_see
  refine z_fix (σ := jMem) (lv := fun s => [(0, 2, 0)]) (st := fun _ => []) (M := fun s => s) (fun h0 hh0 => ?_) N M
  intro M1
  show jZ K id 0 [(0, 2, 0)] [] M1 _
  unfold m_see_L0
  refine z_aload_n (pc := 0) hR 0 dX12_see_0 rfl rfl ?_
  refine z_geti (pc := 1) hR (j := 8) jf_RX12_99 kmo_0 (by decide) rfl rfl dX12_see_1 ?_
  refine z_aload_n (pc := 4) hR 0 dX12_see_4 rfl rfl ?_
  refine z_geti (pc := 5) hR (j := 1) jf_RX12_89 kmo_0 (by decide) rfl rfl dX12_see_5 ?_
  refine z_join (P := fun j => ∀ (_ : Unit), jZ K id 38 [(0, 2, 0)] [] M1 (j ())) (fun _ => ?_) (fun j38 hj38 => ?_)
  · refine z_aload_n (pc := 38) hR 0 dX12_see_38 rfl rfl ?_
    refine z_geti (pc := 39) hR (j := 8) jf_RX12_99 kmo_0 (by decide) rfl rfl dX12_see_39 ?_
    refine z_aload_n (pc := 42) hR 0 dX12_see_42 rfl rfl ?_
    refine z_geti (pc := 43) hR (j := 1) jf_RX12_89 kmo_0 (by decide) rfl rfl dX12_see_43 ?_
    refine z_icmpge (pc := 46) (tgt := 65) hR dX12_see_46 (by decide) ?_ ?_
    · refine z_iconst (pc := 65) hR dX12_see_65 rfl ?_
      exact z_ireturn (pc := 66) hR rfl rfl dX12_see_66 rfl
    · refine z_aload_n (pc := 49) hR 0 dX12_see_49 rfl rfl ?_
      refine z_getr (pc := 50) hR (c0 := 1) (r := 1) jf_RX12_7 kmo_0 (by decide) rfl rfl dX12_see_50 ?_
      refine z_aload_n (pc := 53) hR 0 dX12_see_53 rfl rfl ?_
      refine z_geti (pc := 54) hR (j := 8) jf_RX12_99 kmo_0 (by decide) rfl rfl dX12_see_54 ?_
      refine z_chk (fun hc2 => ?_)
      refine z_bald (pc := 57) hR (n := 400) kma_1 hc2.1 hc2.2 dX12_see_57 ?_
      refine z_sipush (pc := 58) hR dX12_see_58 rfl ?_
      refine z_iand (pc := 61) hR dX12_see_61 ?_
      refine z_goto (pc := 62) (tgt := 66) hR dX12_see_62 (by decide) ?_
      exact z_ireturn (pc := 66) hR rfl rfl dX12_see_66 rfl
  refine z_icmpge (pc := 8) (tgt := 38) hR dX12_see_8 (by decide) ?_ ?_
  · exact hj38 ()
  · refine z_aload_n (pc := 11) hR 0 dX12_see_11 rfl rfl ?_
    refine z_getr (pc := 12) hR (c0 := 1) (r := 1) jf_RX12_7 kmo_0 (by decide) rfl rfl dX12_see_12 ?_
    refine z_aload_n (pc := 15) hR 0 dX12_see_15 rfl rfl ?_
    refine z_geti (pc := 16) hR (j := 8) jf_RX12_99 kmo_0 (by decide) rfl rfl dX12_see_16 ?_
    refine z_chk (fun hc3 => ?_)
    refine z_bald (pc := 19) hR (n := 400) kma_1 hc3.1 hc3.2 dX12_see_19 ?_
    refine z_bipush (pc := 20) hR dX12_see_20 rfl ?_
    refine z_icmpne (pc := 22) (tgt := 38) hR dX12_see_22 (by decide) ?_ ?_
    · exact hj38 ()
    · refine z_aload_n (pc := 25) hR 0 dX12_see_25 rfl rfl ?_
      refine z_dup (pc := 26) hR dX12_see_26 (by decide) ?_
      refine z_geti (pc := 27) hR (j := 8) jf_RX12_99 kmo_0 (by decide) rfl rfl dX12_see_27 ?_
      refine z_iconst (pc := 30) hR dX12_see_30 rfl ?_
      refine z_iadd (pc := 31) hR dX12_see_31 ?_
      refine z_puti (pc := 32) hR (j := 8) jp_RX12_99 kmo_0 (by decide) rfl rfl rfl rfl dX12_see_32 (fun M4 => ?_)
      refine z_goto (pc := 35) (tgt := 0) hR dX12_see_35 (by decide) ?_
      exact hh0 M4
theorem dX12_isDigit_0 : decode cX12_isDigit 0 = .ok (.iload_n 1, 1) := by decide +kernel
theorem dX12_isDigit_1 : decode cX12_isDigit 1 = .ok (.aload_n 0, 1) := by decide +kernel
theorem dX12_isDigit_2 : decode cX12_isDigit 2 = .ok (.getfield 89, 3) := by decide +kernel
theorem dX12_isDigit_5 : decode cX12_isDigit 5 = .ok (.if_icmp .ge 29, 3) := by decide +kernel
theorem dX12_isDigit_8 : decode cX12_isDigit 8 = .ok (.aload_n 0, 1) := by decide +kernel
theorem dX12_isDigit_9 : decode cX12_isDigit 9 = .ok (.getfield 7, 3) := by decide +kernel
theorem dX12_isDigit_12 : decode cX12_isDigit 12 = .ok (.iload_n 1, 1) := by decide +kernel
theorem dX12_isDigit_13 : decode cX12_isDigit 13 = .ok (.baload, 1) := by decide +kernel
theorem dX12_isDigit_14 : decode cX12_isDigit 14 = .ok (.bipush 48, 2) := by decide +kernel
theorem dX12_isDigit_16 : decode cX12_isDigit 16 = .ok (.if_icmp .lt 18, 3) := by decide +kernel
theorem dX12_isDigit_19 : decode cX12_isDigit 19 = .ok (.aload_n 0, 1) := by decide +kernel
theorem dX12_isDigit_20 : decode cX12_isDigit 20 = .ok (.getfield 7, 3) := by decide +kernel
theorem dX12_isDigit_23 : decode cX12_isDigit 23 = .ok (.iload_n 1, 1) := by decide +kernel
theorem dX12_isDigit_24 : decode cX12_isDigit 24 = .ok (.baload, 1) := by decide +kernel
theorem dX12_isDigit_25 : decode cX12_isDigit 25 = .ok (.bipush 57, 2) := by decide +kernel
theorem dX12_isDigit_27 : decode cX12_isDigit 27 = .ok (.if_icmp .gt 7, 3) := by decide +kernel
theorem dX12_isDigit_30 : decode cX12_isDigit 30 = .ok (.iconst 1, 1) := by decide +kernel
theorem dX12_isDigit_31 : decode cX12_isDigit 31 = .ok (.goto 4, 3) := by decide +kernel
theorem dX12_isDigit_34 : decode cX12_isDigit 34 = .ok (.iconst 0, 1) := by decide +kernel
theorem dX12_isDigit_35 : decode cX12_isDigit 35 = .ok (.ireturn, 1) := by decide +kernel
def m_isDigit (N : Nat) (a1 : Int) (M : jMem) : Option Int := (if a1 < (M 0 1) then jchk (0 ≤ a1 ∧ a1 < 400) <| (if (M 1 a1) < 48 then some 0 else jchk (0 ≤ a1 ∧ a1 < 400) <| (if 57 < (M 1 a1) then some 0 else some 1)) else some 0)
theorem c_m_isDigit {l : Launch} {g : jG} (N : Nat) (a1 : Int) (M : jMem)  : ∀ o, m_isDigit N a1 M = some o → jCt l g jTM yX12_isDigit cX12_isDigit 2 (some .boolean) 0 1 [(2, 0), (0, a1)] M (o, M) := by
  refine jMet (own := RX12) (em := (fun r => (r, M))) (L := [(0, 2, 0), (1, 0, a1)]) (by decide +kernel) rfl (Nat.le_of_ble_eq_true rfl) rfl (fun K hR => ?_)
  unfold m_isDigit
  refine z_iload_n (pc := 0) hR 1 dX12_isDigit_0 rfl rfl ?_
  refine z_aload_n (pc := 1) hR 0 dX12_isDigit_1 rfl rfl ?_
  refine z_geti (pc := 2) hR (j := 1) jf_RX12_89 kmo_0 (by decide) rfl rfl dX12_isDigit_2 ?_
  refine z_icmpge (pc := 5) (tgt := 34) hR dX12_isDigit_5 (by decide) ?_ ?_
  · refine z_iconst (pc := 34) hR dX12_isDigit_34 rfl ?_
    exact z_zreturn (pc := 35) hR rfl rfl (Or.inl rfl) dX12_isDigit_35 rfl
  · refine z_aload_n (pc := 8) hR 0 dX12_isDigit_8 rfl rfl ?_
    refine z_getr (pc := 9) hR (c0 := 1) (r := 1) jf_RX12_7 kmo_0 (by decide) rfl rfl dX12_isDigit_9 ?_
    refine z_iload_n (pc := 12) hR 1 dX12_isDigit_12 rfl rfl ?_
    refine z_chk (fun hc1 => ?_)
    refine z_bald (pc := 13) hR (n := 400) kma_1 hc1.1 hc1.2 dX12_isDigit_13 ?_
    refine z_bipush (pc := 14) hR dX12_isDigit_14 rfl ?_
    refine z_icmplt (pc := 16) (tgt := 34) hR dX12_isDigit_16 (by decide) ?_ ?_
    · refine z_iconst (pc := 34) hR dX12_isDigit_34 rfl ?_
      exact z_zreturn (pc := 35) hR rfl rfl (Or.inl rfl) dX12_isDigit_35 rfl
    · refine z_aload_n (pc := 19) hR 0 dX12_isDigit_19 rfl rfl ?_
      refine z_getr (pc := 20) hR (c0 := 1) (r := 1) jf_RX12_7 kmo_0 (by decide) rfl rfl dX12_isDigit_20 ?_
      refine z_iload_n (pc := 23) hR 1 dX12_isDigit_23 rfl rfl ?_
      refine z_chk (fun hc2 => ?_)
      refine z_bald (pc := 24) hR (n := 400) kma_1 hc2.1 hc2.2 dX12_isDigit_24 ?_
      refine z_bipush (pc := 25) hR dX12_isDigit_25 rfl ?_
      refine z_icmpgt (pc := 27) (tgt := 34) hR dX12_isDigit_27 (by decide) ?_ ?_
      · refine z_iconst (pc := 34) hR dX12_isDigit_34 rfl ?_
        exact z_zreturn (pc := 35) hR rfl rfl (Or.inl rfl) dX12_isDigit_35 rfl
      · refine z_iconst (pc := 30) hR dX12_isDigit_30 rfl ?_
        refine z_goto (pc := 31) (tgt := 35) hR dX12_isDigit_31 (by decide) ?_
        exact z_zreturn (pc := 35) hR rfl rfl (Or.inr rfl) dX12_isDigit_35 rfl
theorem dX12_isLetter_0 : decode cX12_isLetter 0 = .ok (.iload_n 1, 1) := by decide +kernel
theorem dX12_isLetter_1 : decode cX12_isLetter 1 = .ok (.aload_n 0, 1) := by decide +kernel
theorem dX12_isLetter_2 : decode cX12_isLetter 2 = .ok (.getfield 89, 3) := by decide +kernel
theorem dX12_isLetter_5 : decode cX12_isLetter 5 = .ok (.if_icmp .ge 29, 3) := by decide +kernel
theorem dX12_isLetter_8 : decode cX12_isLetter 8 = .ok (.aload_n 0, 1) := by decide +kernel
theorem dX12_isLetter_9 : decode cX12_isLetter 9 = .ok (.getfield 7, 3) := by decide +kernel
theorem dX12_isLetter_12 : decode cX12_isLetter 12 = .ok (.iload_n 1, 1) := by decide +kernel
theorem dX12_isLetter_13 : decode cX12_isLetter 13 = .ok (.baload, 1) := by decide +kernel
theorem dX12_isLetter_14 : decode cX12_isLetter 14 = .ok (.bipush 97, 2) := by decide +kernel
theorem dX12_isLetter_16 : decode cX12_isLetter 16 = .ok (.if_icmp .lt 18, 3) := by decide +kernel
theorem dX12_isLetter_19 : decode cX12_isLetter 19 = .ok (.aload_n 0, 1) := by decide +kernel
theorem dX12_isLetter_20 : decode cX12_isLetter 20 = .ok (.getfield 7, 3) := by decide +kernel
theorem dX12_isLetter_23 : decode cX12_isLetter 23 = .ok (.iload_n 1, 1) := by decide +kernel
theorem dX12_isLetter_24 : decode cX12_isLetter 24 = .ok (.baload, 1) := by decide +kernel
theorem dX12_isLetter_25 : decode cX12_isLetter 25 = .ok (.bipush 122, 2) := by decide +kernel
theorem dX12_isLetter_27 : decode cX12_isLetter 27 = .ok (.if_icmp .gt 7, 3) := by decide +kernel
theorem dX12_isLetter_30 : decode cX12_isLetter 30 = .ok (.iconst 1, 1) := by decide +kernel
theorem dX12_isLetter_31 : decode cX12_isLetter 31 = .ok (.goto 4, 3) := by decide +kernel
theorem dX12_isLetter_34 : decode cX12_isLetter 34 = .ok (.iconst 0, 1) := by decide +kernel
theorem dX12_isLetter_35 : decode cX12_isLetter 35 = .ok (.ireturn, 1) := by decide +kernel
def m_isLetter (N : Nat) (a1 : Int) (M : jMem) : Option Int := (if a1 < (M 0 1) then jchk (0 ≤ a1 ∧ a1 < 400) <| (if (M 1 a1) < 97 then some 0 else jchk (0 ≤ a1 ∧ a1 < 400) <| (if 122 < (M 1 a1) then some 0 else some 1)) else some 0)
theorem c_m_isLetter {l : Launch} {g : jG} (N : Nat) (a1 : Int) (M : jMem)  : ∀ o, m_isLetter N a1 M = some o → jCt l g jTM yX12_isLetter cX12_isLetter 2 (some .boolean) 0 1 [(2, 0), (0, a1)] M (o, M) := by
  refine jMet (own := RX12) (em := (fun r => (r, M))) (L := [(0, 2, 0), (1, 0, a1)]) (by decide +kernel) rfl (Nat.le_of_ble_eq_true rfl) rfl (fun K hR => ?_)
  unfold m_isLetter
  refine z_iload_n (pc := 0) hR 1 dX12_isLetter_0 rfl rfl ?_
  refine z_aload_n (pc := 1) hR 0 dX12_isLetter_1 rfl rfl ?_
  refine z_geti (pc := 2) hR (j := 1) jf_RX12_89 kmo_0 (by decide) rfl rfl dX12_isLetter_2 ?_
  refine z_icmpge (pc := 5) (tgt := 34) hR dX12_isLetter_5 (by decide) ?_ ?_
  · refine z_iconst (pc := 34) hR dX12_isLetter_34 rfl ?_
    exact z_zreturn (pc := 35) hR rfl rfl (Or.inl rfl) dX12_isLetter_35 rfl
  · refine z_aload_n (pc := 8) hR 0 dX12_isLetter_8 rfl rfl ?_
    refine z_getr (pc := 9) hR (c0 := 1) (r := 1) jf_RX12_7 kmo_0 (by decide) rfl rfl dX12_isLetter_9 ?_
    refine z_iload_n (pc := 12) hR 1 dX12_isLetter_12 rfl rfl ?_
    refine z_chk (fun hc1 => ?_)
    refine z_bald (pc := 13) hR (n := 400) kma_1 hc1.1 hc1.2 dX12_isLetter_13 ?_
    refine z_bipush (pc := 14) hR dX12_isLetter_14 rfl ?_
    refine z_icmplt (pc := 16) (tgt := 34) hR dX12_isLetter_16 (by decide) ?_ ?_
    · refine z_iconst (pc := 34) hR dX12_isLetter_34 rfl ?_
      exact z_zreturn (pc := 35) hR rfl rfl (Or.inl rfl) dX12_isLetter_35 rfl
    · refine z_aload_n (pc := 19) hR 0 dX12_isLetter_19 rfl rfl ?_
      refine z_getr (pc := 20) hR (c0 := 1) (r := 1) jf_RX12_7 kmo_0 (by decide) rfl rfl dX12_isLetter_20 ?_
      refine z_iload_n (pc := 23) hR 1 dX12_isLetter_23 rfl rfl ?_
      refine z_chk (fun hc2 => ?_)
      refine z_bald (pc := 24) hR (n := 400) kma_1 hc2.1 hc2.2 dX12_isLetter_24 ?_
      refine z_bipush (pc := 25) hR dX12_isLetter_25 rfl ?_
      refine z_icmpgt (pc := 27) (tgt := 34) hR dX12_isLetter_27 (by decide) ?_ ?_
      · refine z_iconst (pc := 34) hR dX12_isLetter_34 rfl ?_
        exact z_zreturn (pc := 35) hR rfl rfl (Or.inl rfl) dX12_isLetter_35 rfl
      · refine z_iconst (pc := 30) hR dX12_isLetter_30 rfl ?_
        refine z_goto (pc := 31) (tgt := 35) hR dX12_isLetter_31 (by decide) ?_
        exact z_zreturn (pc := 35) hR rfl rfl (Or.inr rfl) dX12_isLetter_35 rfl
theorem dX12_isWord_0 : decode cX12_isWord 0 = .ok (.aload_n 0, 1) := by decide +kernel
theorem dX12_isWord_1 : decode cX12_isWord 1 = .ok (.invokevirtual 102, 3) := by decide +kernel
theorem dX12_isWord_4 : decode cX12_isWord 4 = .ok (.pop, 1) := by decide +kernel
theorem dX12_isWord_5 : decode cX12_isWord 5 = .ok (.lconst 0, 1) := by decide +kernel
theorem dX12_isWord_6 : decode cX12_isWord 6 = .ok (.lstore_n 3, 1) := by decide +kernel
theorem dX12_isWord_7 : decode cX12_isWord 7 = .ok (.iconst 0, 1) := by decide +kernel
theorem dX12_isWord_8 : decode cX12_isWord 8 = .ok (.istore 5, 2) := by decide +kernel
theorem dX12_isWord_10 : decode cX12_isWord 10 = .ok (.aload_n 0, 1) := by decide +kernel
theorem dX12_isWord_11 : decode cX12_isWord 11 = .ok (.aload_n 0, 1) := by decide +kernel
theorem dX12_isWord_12 : decode cX12_isWord 12 = .ok (.getfield 99, 3) := by decide +kernel
theorem dX12_isWord_15 : decode cX12_isWord 15 = .ok (.iload 5, 2) := by decide +kernel
theorem dX12_isWord_17 : decode cX12_isWord 17 = .ok (.iadd, 1) := by decide +kernel
theorem dX12_isWord_18 : decode cX12_isWord 18 = .ok (.invokevirtual 106, 3) := by decide +kernel
theorem dX12_isWord_21 : decode cX12_isWord 21 = .ok (.ifCond .eq 35, 3) := by decide +kernel
theorem dX12_isWord_24 : decode cX12_isWord 24 = .ok (.iload 5, 2) := by decide +kernel
theorem dX12_isWord_26 : decode cX12_isWord 26 = .ok (.bipush 8, 2) := by decide +kernel
theorem dX12_isWord_28 : decode cX12_isWord 28 = .ok (.if_icmp .ge 22, 3) := by decide +kernel
theorem dX12_isWord_31 : decode cX12_isWord 31 = .ok (.lload_n 3, 1) := by decide +kernel
theorem dX12_isWord_32 : decode cX12_isWord 32 = .ok (.bipush 8, 2) := by decide +kernel
theorem dX12_isWord_34 : decode cX12_isWord 34 = .ok (.lshl, 1) := by decide +kernel
theorem dX12_isWord_35 : decode cX12_isWord 35 = .ok (.aload_n 0, 1) := by decide +kernel
theorem dX12_isWord_36 : decode cX12_isWord 36 = .ok (.getfield 7, 3) := by decide +kernel
theorem dX12_isWord_39 : decode cX12_isWord 39 = .ok (.aload_n 0, 1) := by decide +kernel
theorem dX12_isWord_40 : decode cX12_isWord 40 = .ok (.getfield 99, 3) := by decide +kernel
theorem dX12_isWord_43 : decode cX12_isWord 43 = .ok (.iload 5, 2) := by decide +kernel
theorem dX12_isWord_45 : decode cX12_isWord 45 = .ok (.iadd, 1) := by decide +kernel
theorem dX12_isWord_46 : decode cX12_isWord 46 = .ok (.baload, 1) := by decide +kernel
theorem dX12_isWord_47 : decode cX12_isWord 47 = .ok (.i2l, 1) := by decide +kernel
theorem dX12_isWord_48 : decode cX12_isWord 48 = .ok (.lor, 1) := by decide +kernel
theorem dX12_isWord_49 : decode cX12_isWord 49 = .ok (.lstore_n 3, 1) := by decide +kernel
theorem dX12_isWord_50 : decode cX12_isWord 50 = .ok (.iinc 5 1, 3) := by decide +kernel
theorem dX12_isWord_53 : decode cX12_isWord 53 = .ok (.goto (-43), 3) := by decide +kernel
theorem dX12_isWord_56 : decode cX12_isWord 56 = .ok (.iload 5, 2) := by decide +kernel
theorem dX12_isWord_58 : decode cX12_isWord 58 = .ok (.ifCond .le 20, 3) := by decide +kernel
theorem dX12_isWord_61 : decode cX12_isWord 61 = .ok (.iload 5, 2) := by decide +kernel
theorem dX12_isWord_63 : decode cX12_isWord 63 = .ok (.bipush 8, 2) := by decide +kernel
theorem dX12_isWord_65 : decode cX12_isWord 65 = .ok (.if_icmp .ge 13, 3) := by decide +kernel
theorem dX12_isWord_68 : decode cX12_isWord 68 = .ok (.lload_n 3, 1) := by decide +kernel
theorem dX12_isWord_69 : decode cX12_isWord 69 = .ok (.lload_n 1, 1) := by decide +kernel
theorem dX12_isWord_70 : decode cX12_isWord 70 = .ok (.lcmp, 1) := by decide +kernel
theorem dX12_isWord_71 : decode cX12_isWord 71 = .ok (.ifCond .ne 7, 3) := by decide +kernel
theorem dX12_isWord_74 : decode cX12_isWord 74 = .ok (.iconst 1, 1) := by decide +kernel
theorem dX12_isWord_75 : decode cX12_isWord 75 = .ok (.goto 4, 3) := by decide +kernel
theorem dX12_isWord_78 : decode cX12_isWord 78 = .ok (.iconst 0, 1) := by decide +kernel
theorem dX12_isWord_79 : decode cX12_isWord 79 = .ok (.ireturn, 1) := by decide +kernel
def m_isWord_L10 (N : Nat) (a1 : Int) (M2 : jMem) (h10 : (Int × Int) → Option (Int × jMem)) : Int × Int → Option (Int × jMem)
  | (x3, x4) => (m_isLetter N ((w32 (((M2 0 8)) + x4))) M2).bind fun r5 => (if r5 = 0 then (if 0 < x4 then (if x4 < 8 then (if (jcmp x3 a1) = 0 then some (1, M2) else some (0, M2)) else some (0, M2)) else some (0, M2)) else (if x4 < 8 then jchk (0 ≤ (w32 (((M2 0 8)) + x4)) ∧ (w32 (((M2 0 8)) + x4)) < 400) <| jlt ((jlor ((jlshl x3 8)) ((M2 1 ((w32 (((M2 0 8)) + x4))))))) fun v7 => h10 (v7, (w32 (x4 + 1))) else h10 (x3, (w32 (x4 + 1)))))
def m_isWord (N : Nat) (a1 : Int) (M : jMem) : Option (Int × jMem) := jb1 (m_see N M) fun r1 M2 => jfix N (m_isWord_L10 N a1 M2) (0, 0)
theorem c_m_isWord {l : Launch} {g : jG} (N : Nat) (a1 : Int) (M : jMem)  : ∀ o, m_isWord N a1 M = some o → jCt l g jTM yX12_isWord cX12_isWord 6 (some .boolean) 0 3 [(2, 0), (1, a1)] M o := by
  refine jMet (own := RX12) (em := id) (L := [(0, 2, 0), (1, 1, a1)]) (by decide +kernel) rfl (Nat.le_of_ble_eq_true rfl) rfl (fun K hR => ?_)
  unfold m_isWord
  refine z_aload_n (pc := 0) hR 0 dX12_isWord_0 rfl rfl ?_
  refine z_callv1 (pc := 1) hR (As := []) (st := []) jm_X12_see jl_RX12_102 kmo_0 (by decide) rfl (by decide) (c_m_see N M) rfl (by decide) (by decide) rfl (Nat.le_of_ble_eq_true rfl) dX12_isWord_1 (fun r1 M2 => ?_)
  refine z_pop (pc := 4) hR dX12_isWord_4 (by decide) ?_
  refine z_lconst (pc := 5) hR (x := 0) dX12_isWord_5 rfl ?_
  refine z_lstore_n (pc := 6) hR (lv' := [(3, 1, 0), (0, 2, 0), (1, 1, a1)]) dX12_isWord_6 rfl (by decide) rfl ?_
  refine z_iconst (pc := 7) hR dX12_isWord_7 rfl ?_
  refine z_istore (pc := 8) hR (lv' := [(5, 0, 0), (3, 1, 0), (0, 2, 0), (1, 1, a1)]) dX12_isWord_8 (by decide) rfl ?_
  refine z_pick (pc := 10) (lv' := [(0, 2, 0), (1, 1, a1), (3, 1, 0), (5, 0, 0)]) hR [2, 3, 1, 0] rfl ?_
  refine z_fix (σ := Int × Int) (lv := fun s => [(0, 2, 0), (1, 1, a1), (3, 1, s.1), (5, 0, s.2)]) (st := fun _ => []) (M := fun _ => M2) (fun h10 hh10 => ?_) N (0, 0)
  rintro ⟨x3, x4⟩
  show jZ K id 10 [(0, 2, 0), (1, 1, a1), (3, 1, x3), (5, 0, x4)] [] M2 _
  unfold m_isWord_L10
  refine z_aload_n (pc := 10) hR 0 dX12_isWord_10 rfl rfl ?_
  refine z_aload_n (pc := 11) hR 0 dX12_isWord_11 rfl rfl ?_
  refine z_geti (pc := 12) hR (j := 8) jf_RX12_99 kmo_0 (by decide) rfl rfl dX12_isWord_12 ?_
  refine z_iload (pc := 15) hR 3 dX12_isWord_15 rfl ?_
  refine z_iadd (pc := 17) hR dX12_isWord_17 ?_
  refine z_callvp (pc := 18) hR (As := [(0, (w32 (((M2 0 8)) + x4)))]) (st := []) jm_X12_isLetter jl_RX12_106 kmo_0 (by decide) rfl (by decide) (c_m_isLetter N ((w32 (((M2 0 8)) + x4))) M2) rfl (by decide) (by decide) rfl (Nat.le_of_ble_eq_true rfl) dX12_isWord_18 (fun r5 => ?_)
  refine z_ifeq (pc := 21) (tgt := 56) hR dX12_isWord_21 (by decide) ?_ ?_
  · refine z_iload (pc := 56) hR 3 dX12_isWord_56 rfl ?_
    refine z_ifle (pc := 58) (tgt := 78) hR dX12_isWord_58 (by decide) ?_ ?_
    · refine z_iconst (pc := 78) hR dX12_isWord_78 rfl ?_
      exact z_zreturn (pc := 79) hR rfl rfl (Or.inl rfl) dX12_isWord_79 rfl
    · refine z_iload (pc := 61) hR 3 dX12_isWord_61 rfl ?_
      refine z_bipush (pc := 63) hR dX12_isWord_63 rfl ?_
      refine z_icmpge (pc := 65) (tgt := 78) hR dX12_isWord_65 (by decide) ?_ ?_
      · refine z_iconst (pc := 78) hR dX12_isWord_78 rfl ?_
        exact z_zreturn (pc := 79) hR rfl rfl (Or.inl rfl) dX12_isWord_79 rfl
      · refine z_lload_n (pc := 68) hR 2 dX12_isWord_68 rfl rfl ?_
        refine z_lload_n (pc := 69) hR 1 dX12_isWord_69 rfl rfl ?_
        refine z_lcmp (pc := 70) hR dX12_isWord_70 ?_
        refine z_ifne (pc := 71) (tgt := 78) hR dX12_isWord_71 (by decide) ?_ ?_
        · refine z_iconst (pc := 78) hR dX12_isWord_78 rfl ?_
          exact z_zreturn (pc := 79) hR rfl rfl (Or.inl rfl) dX12_isWord_79 rfl
        · refine z_iconst (pc := 74) hR dX12_isWord_74 rfl ?_
          refine z_goto (pc := 75) (tgt := 79) hR dX12_isWord_75 (by decide) ?_
          exact z_zreturn (pc := 79) hR rfl rfl (Or.inr rfl) dX12_isWord_79 rfl
  · refine z_iload (pc := 24) hR 3 dX12_isWord_24 rfl ?_
    refine z_bipush (pc := 26) hR dX12_isWord_26 rfl ?_
    refine z_icmpge (pc := 28) (tgt := 50) hR dX12_isWord_28 (by decide) ?_ ?_
    · refine z_iinc (pc := 50) hR (j := 3) (lv' := [(5, 0, (w32 (x4 + 1))), (0, 2, 0), (1, 1, a1), (3, 1, x3)]) dX12_isWord_50 rfl (by decide) rfl ?_
      refine z_goto (pc := 53) (tgt := 10) hR dX12_isWord_53 (by decide) ?_
      refine z_pick (pc := 10) (lv' := [(0, 2, 0), (1, 1, a1), (3, 1, x3), (5, 0, (w32 (x4 + 1)))]) hR [1, 2, 3, 0] rfl ?_
      exact hh10 (x3, (w32 (x4 + 1)))
    · refine z_lload_n (pc := 31) hR 2 dX12_isWord_31 rfl rfl ?_
      refine z_bipush (pc := 32) hR dX12_isWord_32 rfl ?_
      refine z_lshl (pc := 34) hR dX12_isWord_34 ?_
      refine z_aload_n (pc := 35) hR 0 dX12_isWord_35 rfl rfl ?_
      refine z_getr (pc := 36) hR (c0 := 1) (r := 1) jf_RX12_7 kmo_0 (by decide) rfl rfl dX12_isWord_36 ?_
      refine z_aload_n (pc := 39) hR 0 dX12_isWord_39 rfl rfl ?_
      refine z_geti (pc := 40) hR (j := 8) jf_RX12_99 kmo_0 (by decide) rfl rfl dX12_isWord_40 ?_
      refine z_iload (pc := 43) hR 3 dX12_isWord_43 rfl ?_
      refine z_iadd (pc := 45) hR dX12_isWord_45 ?_
      refine z_chk (fun hc6 => ?_)
      refine z_bald (pc := 46) hR (n := 400) kma_1 hc6.1 hc6.2 dX12_isWord_46 ?_
      refine z_i2l (pc := 47) hR dX12_isWord_47 ?_
      refine z_lor (pc := 48) hR dX12_isWord_48 ?_
      refine z_let1 (fun v7 => ?_)
      refine z_lstore_n (pc := 49) hR (lv' := [(3, 1, v7), (0, 2, 0), (1, 1, a1), (5, 0, x4)]) dX12_isWord_49 rfl (by decide) rfl ?_
      refine z_iinc (pc := 50) hR (j := 3) (lv' := [(5, 0, (w32 (x4 + 1))), (3, 1, v7), (0, 2, 0), (1, 1, a1)]) dX12_isWord_50 rfl (by decide) rfl ?_
      refine z_goto (pc := 53) (tgt := 10) hR dX12_isWord_53 (by decide) ?_
      refine z_pick (pc := 10) (lv' := [(0, 2, 0), (1, 1, a1), (3, 1, v7), (5, 0, (w32 (x4 + 1)))]) hR [2, 3, 1, 0] rfl ?_
      exact hh10 (v7, (w32 (x4 + 1)))
theorem dX12_passWord_0 : decode cX12_passWord 0 = .ok (.aload_n 0, 1) := by decide +kernel
theorem dX12_passWord_1 : decode cX12_passWord 1 = .ok (.aload_n 0, 1) := by decide +kernel
theorem dX12_passWord_2 : decode cX12_passWord 2 = .ok (.getfield 99, 3) := by decide +kernel
theorem dX12_passWord_5 : decode cX12_passWord 5 = .ok (.invokevirtual 106, 3) := by decide +kernel
theorem dX12_passWord_8 : decode cX12_passWord 8 = .ok (.ifCond .eq 16, 3) := by decide +kernel
theorem dX12_passWord_11 : decode cX12_passWord 11 = .ok (.aload_n 0, 1) := by decide +kernel
theorem dX12_passWord_12 : decode cX12_passWord 12 = .ok (.dup, 1) := by decide +kernel
theorem dX12_passWord_13 : decode cX12_passWord 13 = .ok (.getfield 99, 3) := by decide +kernel
theorem dX12_passWord_16 : decode cX12_passWord 16 = .ok (.iconst 1, 1) := by decide +kernel
theorem dX12_passWord_17 : decode cX12_passWord 17 = .ok (.iadd, 1) := by decide +kernel
theorem dX12_passWord_18 : decode cX12_passWord 18 = .ok (.putfield 99, 3) := by decide +kernel
theorem dX12_passWord_21 : decode cX12_passWord 21 = .ok (.goto (-21), 3) := by decide +kernel
theorem dX12_passWord_24 : decode cX12_passWord 24 = .ok (.return_, 1) := by decide +kernel
def m_passWord_L0 (N : Nat)  (h0 : jMem → Option (Int × jMem)) : jMem → Option (Int × jMem)
  | M1 => (m_isLetter N ((M1 0 8)) M1).bind fun r2 => (if r2 = 0 then some (0, M1) else jlt (up M1 0 8 ((w32 (((M1 0 8)) + 1)))) fun M3 => h0 M3)
def m_passWord (N : Nat) (M : jMem) : Option (Int × jMem) := jfix N (m_passWord_L0 N) M
theorem c_m_passWord {l : Launch} {g : jG} (N : Nat) (M : jMem)  : ∀ o, m_passWord N  M = some o → jCt l g jTM yX12_passWord cX12_passWord 1 none 3 3 [(2, 0)] M o := by
  refine jMet (own := RX12) (em := id) (L := [(0, 2, 0)]) (by decide +kernel) rfl (Nat.le_of_ble_eq_true rfl) rfl (fun K hR => ?_)
  unfold m_passWord
  refine z_fix (σ := jMem) (lv := fun s => [(0, 2, 0)]) (st := fun _ => []) (M := fun s => s) (fun h0 hh0 => ?_) N M
  intro M1
  show jZ K id 0 [(0, 2, 0)] [] M1 _
  unfold m_passWord_L0
  refine z_aload_n (pc := 0) hR 0 dX12_passWord_0 rfl rfl ?_
  refine z_aload_n (pc := 1) hR 0 dX12_passWord_1 rfl rfl ?_
  refine z_geti (pc := 2) hR (j := 8) jf_RX12_99 kmo_0 (by decide) rfl rfl dX12_passWord_2 ?_
  refine z_callvp (pc := 5) hR (As := [(0, (M1 0 8))]) (st := []) jm_X12_isLetter jl_RX12_106 kmo_0 (by decide) rfl (by decide) (c_m_isLetter N ((M1 0 8)) M1) rfl (by decide) (by decide) rfl (Nat.le_of_ble_eq_true rfl) dX12_passWord_5 (fun r2 => ?_)
  refine z_ifeq (pc := 8) (tgt := 24) hR dX12_passWord_8 (by decide) ?_ ?_
  · exact z_return (x := 0) (pc := 24) hR rfl rfl dX12_passWord_24 rfl
  · refine z_aload_n (pc := 11) hR 0 dX12_passWord_11 rfl rfl ?_
    refine z_dup (pc := 12) hR dX12_passWord_12 (by decide) ?_
    refine z_geti (pc := 13) hR (j := 8) jf_RX12_99 kmo_0 (by decide) rfl rfl dX12_passWord_13 ?_
    refine z_iconst (pc := 16) hR dX12_passWord_16 rfl ?_
    refine z_iadd (pc := 17) hR dX12_passWord_17 ?_
    refine z_puti (pc := 18) hR (j := 8) jp_RX12_99 kmo_0 (by decide) rfl rfl rfl rfl dX12_passWord_18 (fun M3 => ?_)
    refine z_goto (pc := 21) (tgt := 0) hR dX12_passWord_21 (by decide) ?_
    exact hh0 M3
theorem dX12_takesWord_0 : decode cX12_takesWord 0 = .ok (.aload_n 0, 1) := by decide +kernel
theorem dX12_takesWord_1 : decode cX12_takesWord 1 = .ok (.lload_n 1, 1) := by decide +kernel
theorem dX12_takesWord_2 : decode cX12_takesWord 2 = .ok (.invokevirtual 110, 3) := by decide +kernel
theorem dX12_takesWord_5 : decode cX12_takesWord 5 = .ok (.ifCond .ne 5, 3) := by decide +kernel
theorem dX12_takesWord_8 : decode cX12_takesWord 8 = .ok (.iconst 0, 1) := by decide +kernel
theorem dX12_takesWord_9 : decode cX12_takesWord 9 = .ok (.ireturn, 1) := by decide +kernel
theorem dX12_takesWord_10 : decode cX12_takesWord 10 = .ok (.aload_n 0, 1) := by decide +kernel
theorem dX12_takesWord_11 : decode cX12_takesWord 11 = .ok (.invokevirtual 114, 3) := by decide +kernel
theorem dX12_takesWord_14 : decode cX12_takesWord 14 = .ok (.iconst 1, 1) := by decide +kernel
theorem dX12_takesWord_15 : decode cX12_takesWord 15 = .ok (.ireturn, 1) := by decide +kernel
def m_takesWord (N : Nat) (a1 : Int) (M : jMem) : Option (Int × jMem) := jb1 (m_isWord N a1 M) fun r1 M2 => (if r1 = 0 then some (0, M2) else jbv (m_passWord N M2) fun M3 => some (1, M3))
theorem c_m_takesWord {l : Launch} {g : jG} (N : Nat) (a1 : Int) (M : jMem)  : ∀ o, m_takesWord N a1 M = some o → jCt l g jTM yX12_takesWord cX12_takesWord 3 (some .boolean) 0 5 [(2, 0), (1, a1)] M o := by
  refine jMet (own := RX12) (em := id) (L := [(0, 2, 0), (1, 1, a1)]) (by decide +kernel) rfl (Nat.le_of_ble_eq_true rfl) rfl (fun K hR => ?_)
  unfold m_takesWord
  refine z_aload_n (pc := 0) hR 0 dX12_takesWord_0 rfl rfl ?_
  refine z_lload_n (pc := 1) hR 1 dX12_takesWord_1 rfl rfl ?_
  refine z_callv1 (pc := 2) hR (As := [(1, a1)]) (st := []) jm_X12_isWord jl_RX12_110 kmo_0 (by decide) rfl (by decide) (c_m_isWord N a1 M) rfl (by decide) (by decide) rfl (Nat.le_of_ble_eq_true rfl) dX12_takesWord_2 (fun r1 M2 => ?_)
  refine z_ifne (pc := 5) (tgt := 10) hR dX12_takesWord_5 (by decide) ?_ ?_
  · refine z_aload_n (pc := 10) hR 0 dX12_takesWord_10 rfl rfl ?_
    refine z_callv0 (pc := 11) (rk' := 3) hR (As := []) (st := []) jm_X12_passWord jl_RX12_114 kmo_0 (by decide) rfl (c_m_passWord N M2) rfl (by decide) (by decide) rfl (Nat.le_of_ble_eq_true rfl) dX12_takesWord_11 (fun M3 => ?_)
    refine z_iconst (pc := 14) hR dX12_takesWord_14 rfl ?_
    exact z_zreturn (pc := 15) hR rfl rfl (Or.inr rfl) dX12_takesWord_15 rfl
  · refine z_iconst (pc := 8) hR dX12_takesWord_8 rfl ?_
    exact z_zreturn (pc := 9) hR rfl rfl (Or.inl rfl) dX12_takesWord_9 rfl
theorem dX12_numberHere_0 : decode cX12_numberHere 0 = .ok (.aload_n 0, 1) := by decide +kernel
theorem dX12_numberHere_1 : decode cX12_numberHere 1 = .ok (.invokevirtual 102, 3) := by decide +kernel
theorem dX12_numberHere_4 : decode cX12_numberHere 4 = .ok (.pop, 1) := by decide +kernel
theorem dX12_numberHere_5 : decode cX12_numberHere 5 = .ok (.aload_n 0, 1) := by decide +kernel
theorem dX12_numberHere_6 : decode cX12_numberHere 6 = .ok (.aload_n 0, 1) := by decide +kernel
theorem dX12_numberHere_7 : decode cX12_numberHere 7 = .ok (.getfield 99, 3) := by decide +kernel
theorem dX12_numberHere_10 : decode cX12_numberHere 10 = .ok (.invokevirtual 117, 3) := by decide +kernel
theorem dX12_numberHere_13 : decode cX12_numberHere 13 = .ok (.ifCond .ne 13, 3) := by decide +kernel
theorem dX12_numberHere_16 : decode cX12_numberHere 16 = .ok (.aload_n 0, 1) := by decide +kernel
theorem dX12_numberHere_17 : decode cX12_numberHere 17 = .ok (.iconst 0, 1) := by decide +kernel
theorem dX12_numberHere_18 : decode cX12_numberHere 18 = .ok (.aload_n 0, 1) := by decide +kernel
theorem dX12_numberHere_19 : decode cX12_numberHere 19 = .ok (.getfield 99, 3) := by decide +kernel
theorem dX12_numberHere_22 : decode cX12_numberHere 22 = .ok (.invokevirtual 120, 3) := by decide +kernel
theorem dX12_numberHere_25 : decode cX12_numberHere 25 = .ok (.ireturn, 1) := by decide +kernel
theorem dX12_numberHere_26 : decode cX12_numberHere 26 = .ok (.aload_n 0, 1) := by decide +kernel
theorem dX12_numberHere_27 : decode cX12_numberHere 27 = .ok (.getfield 99, 3) := by decide +kernel
theorem dX12_numberHere_30 : decode cX12_numberHere 30 = .ok (.istore_n 3, 1) := by decide +kernel
theorem dX12_numberHere_31 : decode cX12_numberHere 31 = .ok (.iconst 0, 1) := by decide +kernel
theorem dX12_numberHere_32 : decode cX12_numberHere 32 = .ok (.istore 4, 2) := by decide +kernel
theorem dX12_numberHere_34 : decode cX12_numberHere 34 = .ok (.aload_n 0, 1) := by decide +kernel
theorem dX12_numberHere_35 : decode cX12_numberHere 35 = .ok (.aload_n 0, 1) := by decide +kernel
theorem dX12_numberHere_36 : decode cX12_numberHere 36 = .ok (.getfield 99, 3) := by decide +kernel
theorem dX12_numberHere_39 : decode cX12_numberHere 39 = .ok (.invokevirtual 117, 3) := by decide +kernel
theorem dX12_numberHere_42 : decode cX12_numberHere 42 = .ok (.ifCond .eq 46, 3) := by decide +kernel
theorem dX12_numberHere_45 : decode cX12_numberHere 45 = .ok (.aload_n 0, 1) := by decide +kernel
theorem dX12_numberHere_46 : decode cX12_numberHere 46 = .ok (.getfield 99, 3) := by decide +kernel
theorem dX12_numberHere_49 : decode cX12_numberHere 49 = .ok (.iload_n 3, 1) := by decide +kernel
theorem dX12_numberHere_50 : decode cX12_numberHere 50 = .ok (.isub, 1) := by decide +kernel
theorem dX12_numberHere_51 : decode cX12_numberHere 51 = .ok (.iconst 5, 1) := by decide +kernel
theorem dX12_numberHere_52 : decode cX12_numberHere 52 = .ok (.if_icmp .ge 23, 3) := by decide +kernel
theorem dX12_numberHere_55 : decode cX12_numberHere 55 = .ok (.bipush 10, 2) := by decide +kernel
theorem dX12_numberHere_57 : decode cX12_numberHere 57 = .ok (.iload 4, 2) := by decide +kernel
theorem dX12_numberHere_59 : decode cX12_numberHere 59 = .ok (.imul, 1) := by decide +kernel
theorem dX12_numberHere_60 : decode cX12_numberHere 60 = .ok (.aload_n 0, 1) := by decide +kernel
theorem dX12_numberHere_61 : decode cX12_numberHere 61 = .ok (.getfield 7, 3) := by decide +kernel
theorem dX12_numberHere_64 : decode cX12_numberHere 64 = .ok (.aload_n 0, 1) := by decide +kernel
theorem dX12_numberHere_65 : decode cX12_numberHere 65 = .ok (.getfield 99, 3) := by decide +kernel
theorem dX12_numberHere_68 : decode cX12_numberHere 68 = .ok (.baload, 1) := by decide +kernel
theorem dX12_numberHere_69 : decode cX12_numberHere 69 = .ok (.iadd, 1) := by decide +kernel
theorem dX12_numberHere_70 : decode cX12_numberHere 70 = .ok (.bipush 48, 2) := by decide +kernel
theorem dX12_numberHere_72 : decode cX12_numberHere 72 = .ok (.isub, 1) := by decide +kernel
theorem dX12_numberHere_73 : decode cX12_numberHere 73 = .ok (.istore 4, 2) := by decide +kernel
theorem dX12_numberHere_75 : decode cX12_numberHere 75 = .ok (.aload_n 0, 1) := by decide +kernel
theorem dX12_numberHere_76 : decode cX12_numberHere 76 = .ok (.dup, 1) := by decide +kernel
theorem dX12_numberHere_77 : decode cX12_numberHere 77 = .ok (.getfield 99, 3) := by decide +kernel
theorem dX12_numberHere_80 : decode cX12_numberHere 80 = .ok (.iconst 1, 1) := by decide +kernel
theorem dX12_numberHere_81 : decode cX12_numberHere 81 = .ok (.iadd, 1) := by decide +kernel
theorem dX12_numberHere_82 : decode cX12_numberHere 82 = .ok (.putfield 99, 3) := by decide +kernel
theorem dX12_numberHere_85 : decode cX12_numberHere 85 = .ok (.goto (-51), 3) := by decide +kernel
theorem dX12_numberHere_88 : decode cX12_numberHere 88 = .ok (.aload_n 0, 1) := by decide +kernel
theorem dX12_numberHere_89 : decode cX12_numberHere 89 = .ok (.iload 4, 2) := by decide +kernel
theorem dX12_numberHere_91 : decode cX12_numberHere 91 = .ok (.putfield 124, 3) := by decide +kernel
theorem dX12_numberHere_94 : decode cX12_numberHere 94 = .ok (.aload_n 0, 1) := by decide +kernel
theorem dX12_numberHere_95 : decode cX12_numberHere 95 = .ok (.getfield 99, 3) := by decide +kernel
theorem dX12_numberHere_98 : decode cX12_numberHere 98 = .ok (.iload_n 3, 1) := by decide +kernel
theorem dX12_numberHere_99 : decode cX12_numberHere 99 = .ok (.isub, 1) := by decide +kernel
theorem dX12_numberHere_100 : decode cX12_numberHere 100 = .ok (.iconst 5, 1) := by decide +kernel
theorem dX12_numberHere_101 : decode cX12_numberHere 101 = .ok (.if_icmp .gt 16, 3) := by decide +kernel
theorem dX12_numberHere_104 : decode cX12_numberHere 104 = .ok (.iload 4, 2) := by decide +kernel
theorem dX12_numberHere_106 : decode cX12_numberHere 106 = .ok (.i2l, 1) := by decide +kernel
theorem dX12_numberHere_107 : decode cX12_numberHere 107 = .ok (.iload_n 1, 1) := by decide +kernel
theorem dX12_numberHere_108 : decode cX12_numberHere 108 = .ok (.i2l, 1) := by decide +kernel
theorem dX12_numberHere_109 : decode cX12_numberHere 109 = .ok (.iload_n 2, 1) := by decide +kernel
theorem dX12_numberHere_110 : decode cX12_numberHere 110 = .ok (.i2l, 1) := by decide +kernel
theorem dX12_numberHere_111 : decode cX12_numberHere 111 = .ok (.invokestatic 127, 3) := by decide +kernel
theorem dX12_numberHere_114 : decode cX12_numberHere 114 = .ok (.ifCond .ne 12, 3) := by decide +kernel
theorem dX12_numberHere_117 : decode cX12_numberHere 117 = .ok (.aload_n 0, 1) := by decide +kernel
theorem dX12_numberHere_118 : decode cX12_numberHere 118 = .ok (.iconst 1, 1) := by decide +kernel
theorem dX12_numberHere_119 : decode cX12_numberHere 119 = .ok (.iload_n 3, 1) := by decide +kernel
theorem dX12_numberHere_120 : decode cX12_numberHere 120 = .ok (.invokevirtual 120, 3) := by decide +kernel
theorem dX12_numberHere_123 : decode cX12_numberHere 123 = .ok (.ifCond .eq 7, 3) := by decide +kernel
theorem dX12_numberHere_126 : decode cX12_numberHere 126 = .ok (.iconst 1, 1) := by decide +kernel
theorem dX12_numberHere_127 : decode cX12_numberHere 127 = .ok (.goto 4, 3) := by decide +kernel
theorem dX12_numberHere_130 : decode cX12_numberHere 130 = .ok (.iconst 0, 1) := by decide +kernel
theorem dX12_numberHere_131 : decode cX12_numberHere 131 = .ok (.ireturn, 1) := by decide +kernel
def m_numberHere_L34 (N : Nat) (a1 : Int) (a2 : Int) (v4 : Int) (h34 : (Int × jMem) → Option (Int × jMem)) : Int × jMem → Option (Int × jMem)
  | (x5, M6) => (m_isDigit N ((M6 0 8)) M6).bind fun r7 => (if r7 = 0 then jlt (up M6 0 10 x5) fun M8 => jlt (fun (_ : Unit) => jb1 (m_fails N 1 v4 M8) fun r9 M10 => (if r9 = 0 then some (0, M10) else some (1, M10))) fun j117 => (if 5 < (w32 (((M8 0 8)) - v4)) then j117 () else (m_in N x5 a1 a2 M8).bind fun r11 => (if r11 = 0 then j117 () else some (1, M8))) else jlt (fun (u12 : Int) => jlt (up M6 0 8 ((w32 (((M6 0 8)) + 1)))) fun M13 => h34 (u12, M13)) fun j75 => (if (w32 (((M6 0 8)) - v4)) < 5 then jchk (0 ≤ (M6 0 8) ∧ (M6 0 8) < 400) <| jlt ((w32 (((w32 (((w32 (10 * x5))) + ((M6 1 ((M6 0 8))))))) - 48))) fun v15 => j75 v15 else j75 x5))
def m_numberHere (N : Nat) (a1 a2 : Int) (M : jMem) : Option (Int × jMem) := jb1 (m_see N M) fun r1 M2 => (m_isDigit N ((M2 0 8)) M2).bind fun r3 => (if r3 = 0 then jb1 (m_fails N 0 ((M2 0 8)) M2) fun r16 M17 => jchk (r16 = 0 ∨ r16 = 1) <| some (r16, M17) else jlt ((M2 0 8)) fun v4 => jfix N (m_numberHere_L34 N a1 a2 v4) (0, M2))
theorem c_m_numberHere {l : Launch} {g : jG} (N : Nat) (a1 a2 : Int) (M : jMem)  : ∀ o, m_numberHere N a1 a2 M = some o → jCt l g jTM yX12_numberHere cX12_numberHere 5 (some .boolean) 0 3 [(2, 0), (0, a1), (0, a2)] M o := by
  refine jMet (own := RX12) (em := id) (L := [(0, 2, 0), (1, 0, a1), (2, 0, a2)]) (by decide +kernel) rfl (Nat.le_of_ble_eq_true rfl) rfl (fun K hR => ?_)
  unfold m_numberHere
  refine z_aload_n (pc := 0) hR 0 dX12_numberHere_0 rfl rfl ?_
  refine z_callv1 (pc := 1) hR (As := []) (st := []) jm_X12_see jl_RX12_102 kmo_0 (by decide) rfl (by decide) (c_m_see N M) rfl (by decide) (by decide) rfl (Nat.le_of_ble_eq_true rfl) dX12_numberHere_1 (fun r1 M2 => ?_)
  refine z_pop (pc := 4) hR dX12_numberHere_4 (by decide) ?_
  refine z_aload_n (pc := 5) hR 0 dX12_numberHere_5 rfl rfl ?_
  refine z_aload_n (pc := 6) hR 0 dX12_numberHere_6 rfl rfl ?_
  refine z_geti (pc := 7) hR (j := 8) jf_RX12_99 kmo_0 (by decide) rfl rfl dX12_numberHere_7 ?_
  refine z_callvp (pc := 10) hR (As := [(0, (M2 0 8))]) (st := []) jm_X12_isDigit jl_RX12_117 kmo_0 (by decide) rfl (by decide) (c_m_isDigit N ((M2 0 8)) M2) rfl (by decide) (by decide) rfl (Nat.le_of_ble_eq_true rfl) dX12_numberHere_10 (fun r3 => ?_)
  refine z_ifne (pc := 13) (tgt := 26) hR dX12_numberHere_13 (by decide) ?_ ?_
  · refine z_aload_n (pc := 26) hR 0 dX12_numberHere_26 rfl rfl ?_
    refine z_geti (pc := 27) hR (j := 8) jf_RX12_99 kmo_0 (by decide) rfl rfl dX12_numberHere_27 ?_
    refine z_let1 (fun v4 => ?_)
    refine z_istore_n (pc := 30) hR (lv' := [(3, 0, v4), (0, 2, 0), (1, 0, a1), (2, 0, a2)]) dX12_numberHere_30 rfl (by decide) rfl ?_
    refine z_iconst (pc := 31) hR dX12_numberHere_31 rfl ?_
    refine z_istore (pc := 32) hR (lv' := [(4, 0, 0), (3, 0, v4), (0, 2, 0), (1, 0, a1), (2, 0, a2)]) dX12_numberHere_32 (by decide) rfl ?_
    refine z_pick (pc := 34) (lv' := [(0, 2, 0), (1, 0, a1), (2, 0, a2), (3, 0, v4), (4, 0, 0)]) hR [2, 3, 4, 1, 0] rfl ?_
    refine z_fix (σ := Int × jMem) (lv := fun s => [(0, 2, 0), (1, 0, a1), (2, 0, a2), (3, 0, v4), (4, 0, s.1)]) (st := fun _ => []) (M := fun s => s.2) (fun h34 hh34 => ?_) N (0, M2)
    rintro ⟨x5, M6⟩
    show jZ K id 34 [(0, 2, 0), (1, 0, a1), (2, 0, a2), (3, 0, v4), (4, 0, x5)] [] M6 _
    unfold m_numberHere_L34
    refine z_aload_n (pc := 34) hR 0 dX12_numberHere_34 rfl rfl ?_
    refine z_aload_n (pc := 35) hR 0 dX12_numberHere_35 rfl rfl ?_
    refine z_geti (pc := 36) hR (j := 8) jf_RX12_99 kmo_0 (by decide) rfl rfl dX12_numberHere_36 ?_
    refine z_callvp (pc := 39) hR (As := [(0, (M6 0 8))]) (st := []) jm_X12_isDigit jl_RX12_117 kmo_0 (by decide) rfl (by decide) (c_m_isDigit N ((M6 0 8)) M6) rfl (by decide) (by decide) rfl (Nat.le_of_ble_eq_true rfl) dX12_numberHere_39 (fun r7 => ?_)
    refine z_ifeq (pc := 42) (tgt := 88) hR dX12_numberHere_42 (by decide) ?_ ?_
    · refine z_aload_n (pc := 88) hR 0 dX12_numberHere_88 rfl rfl ?_
      refine z_iload (pc := 89) hR 4 dX12_numberHere_89 rfl ?_
      refine z_puti (pc := 91) hR (j := 10) jp_RX12_124 kmo_0 (by decide) rfl rfl rfl rfl dX12_numberHere_91 (fun M8 => ?_)
      refine z_aload_n (pc := 94) hR 0 dX12_numberHere_94 rfl rfl ?_
      refine z_geti (pc := 95) hR (j := 8) jf_RX12_99 kmo_0 (by decide) rfl rfl dX12_numberHere_95 ?_
      refine z_iload_n (pc := 98) hR 3 dX12_numberHere_98 rfl rfl ?_
      refine z_isub (pc := 99) hR dX12_numberHere_99 ?_
      refine z_iconst (pc := 100) hR dX12_numberHere_100 rfl ?_
      refine z_join (P := fun j => ∀ (_ : Unit), jZ K id 117 [(0, 2, 0), (3, 0, v4)] [] M8 (j ())) (fun _ => ?_) (fun j117 hj117 => ?_)
      · refine z_aload_n (pc := 117) hR 0 dX12_numberHere_117 rfl rfl ?_
        refine z_iconst (pc := 118) hR dX12_numberHere_118 rfl ?_
        refine z_iload_n (pc := 119) hR 1 dX12_numberHere_119 rfl rfl ?_
        refine z_callv1 (pc := 120) hR (As := [(0, 1), (0, v4)]) (st := []) jm_X12_fails jl_RX12_120 kmo_0 (by decide) rfl (by decide) (c_m_fails N 1 v4 M8) rfl (by decide) (by decide) rfl (Nat.le_of_ble_eq_true rfl) dX12_numberHere_120 (fun r9 M10 => ?_)
        refine z_ifeq (pc := 123) (tgt := 130) hR dX12_numberHere_123 (by decide) ?_ ?_
        · refine z_iconst (pc := 130) hR dX12_numberHere_130 rfl ?_
          exact z_zreturn (pc := 131) hR rfl rfl (Or.inl rfl) dX12_numberHere_131 rfl
        · refine z_iconst (pc := 126) hR dX12_numberHere_126 rfl ?_
          refine z_goto (pc := 127) (tgt := 131) hR dX12_numberHere_127 (by decide) ?_
          exact z_zreturn (pc := 131) hR rfl rfl (Or.inr rfl) dX12_numberHere_131 rfl
      refine z_icmpgt (pc := 101) (tgt := 117) hR dX12_numberHere_101 (by decide) ?_ ?_
      · refine z_pick (pc := 117) (lv' := [(0, 2, 0), (3, 0, v4)]) hR [0, 3] rfl ?_
        exact hj117 ()
      · refine z_iload (pc := 104) hR 4 dX12_numberHere_104 rfl ?_
        refine z_i2l (pc := 106) hR dX12_numberHere_106 ?_
        refine z_iload_n (pc := 107) hR 1 dX12_numberHere_107 rfl rfl ?_
        refine z_i2l (pc := 108) hR dX12_numberHere_108 ?_
        refine z_iload_n (pc := 109) hR 2 dX12_numberHere_109 rfl rfl ?_
        refine z_i2l (pc := 110) hR dX12_numberHere_110 ?_
        refine z_callsp (pc := 111) hR (As := [(1, x5), (1, a1), (1, a2)]) (st := []) jm_X12_in jl_RX12_127 (by decide) (c_m_in N x5 a1 a2 M8) rfl (by decide) (by decide) rfl (Nat.le_of_ble_eq_true rfl) dX12_numberHere_111 (fun r11 => ?_)
        refine z_ifne (pc := 114) (tgt := 126) hR dX12_numberHere_114 (by decide) ?_ ?_
        · refine z_iconst (pc := 126) hR dX12_numberHere_126 rfl ?_
          refine z_goto (pc := 127) (tgt := 131) hR dX12_numberHere_127 (by decide) ?_
          exact z_zreturn (pc := 131) hR rfl rfl (Or.inr rfl) dX12_numberHere_131 rfl
        · refine z_pick (pc := 117) (lv' := [(0, 2, 0), (3, 0, v4)]) hR [0, 3] rfl ?_
          exact hj117 ()
    · refine z_aload_n (pc := 45) hR 0 dX12_numberHere_45 rfl rfl ?_
      refine z_geti (pc := 46) hR (j := 8) jf_RX12_99 kmo_0 (by decide) rfl rfl dX12_numberHere_46 ?_
      refine z_iload_n (pc := 49) hR 3 dX12_numberHere_49 rfl rfl ?_
      refine z_isub (pc := 50) hR dX12_numberHere_50 ?_
      refine z_iconst (pc := 51) hR dX12_numberHere_51 rfl ?_
      refine z_join (P := fun j => ∀ (u12 : Int), jZ K id 75 [(0, 2, 0), (1, 0, a1), (2, 0, a2), (3, 0, v4), (4, 0, u12)] [] M6 (j u12)) (fun u12 => ?_) (fun j75 hj75 => ?_)
      · refine z_aload_n (pc := 75) hR 0 dX12_numberHere_75 rfl rfl ?_
        refine z_dup (pc := 76) hR dX12_numberHere_76 (by decide) ?_
        refine z_geti (pc := 77) hR (j := 8) jf_RX12_99 kmo_0 (by decide) rfl rfl dX12_numberHere_77 ?_
        refine z_iconst (pc := 80) hR dX12_numberHere_80 rfl ?_
        refine z_iadd (pc := 81) hR dX12_numberHere_81 ?_
        refine z_puti (pc := 82) hR (j := 8) jp_RX12_99 kmo_0 (by decide) rfl rfl rfl rfl dX12_numberHere_82 (fun M13 => ?_)
        refine z_goto (pc := 85) (tgt := 34) hR dX12_numberHere_85 (by decide) ?_
        exact hh34 (u12, M13)
      refine z_icmpge (pc := 52) (tgt := 75) hR dX12_numberHere_52 (by decide) ?_ ?_
      · exact hj75 x5
      · refine z_bipush (pc := 55) hR dX12_numberHere_55 rfl ?_
        refine z_iload (pc := 57) hR 4 dX12_numberHere_57 rfl ?_
        refine z_imul (pc := 59) hR dX12_numberHere_59 ?_
        refine z_aload_n (pc := 60) hR 0 dX12_numberHere_60 rfl rfl ?_
        refine z_getr (pc := 61) hR (c0 := 1) (r := 1) jf_RX12_7 kmo_0 (by decide) rfl rfl dX12_numberHere_61 ?_
        refine z_aload_n (pc := 64) hR 0 dX12_numberHere_64 rfl rfl ?_
        refine z_geti (pc := 65) hR (j := 8) jf_RX12_99 kmo_0 (by decide) rfl rfl dX12_numberHere_65 ?_
        refine z_chk (fun hc14 => ?_)
        refine z_bald (pc := 68) hR (n := 400) kma_1 hc14.1 hc14.2 dX12_numberHere_68 ?_
        refine z_iadd (pc := 69) hR dX12_numberHere_69 ?_
        refine z_bipush (pc := 70) hR dX12_numberHere_70 rfl ?_
        refine z_isub (pc := 72) hR dX12_numberHere_72 ?_
        refine z_let1 (fun v15 => ?_)
        refine z_istore (pc := 73) hR (lv' := [(4, 0, v15), (0, 2, 0), (1, 0, a1), (2, 0, a2), (3, 0, v4)]) dX12_numberHere_73 (by decide) rfl ?_
        refine z_pick (pc := 75) (lv' := [(0, 2, 0), (1, 0, a1), (2, 0, a2), (3, 0, v4), (4, 0, v15)]) hR [1, 2, 3, 4, 0] rfl ?_
        exact hj75 v15
  · refine z_aload_n (pc := 16) hR 0 dX12_numberHere_16 rfl rfl ?_
    refine z_iconst (pc := 17) hR dX12_numberHere_17 rfl ?_
    refine z_aload_n (pc := 18) hR 0 dX12_numberHere_18 rfl rfl ?_
    refine z_geti (pc := 19) hR (j := 8) jf_RX12_99 kmo_0 (by decide) rfl rfl dX12_numberHere_19 ?_
    refine z_callv1 (pc := 22) hR (As := [(0, 0), (0, (M2 0 8))]) (st := []) jm_X12_fails jl_RX12_120 kmo_0 (by decide) rfl (by decide) (c_m_fails N 0 ((M2 0 8)) M2) rfl (by decide) (by decide) rfl (Nat.le_of_ble_eq_true rfl) dX12_numberHere_22 (fun r16 M17 => ?_)
    refine z_chk (fun hc18 => ?_)
    exact z_zreturn (pc := 25) hR rfl rfl hc18 dX12_numberHere_25 rfl
theorem dX12_wordHere_0 : decode cX12_wordHere 0 = .ok (.aload_n 0, 1) := by decide +kernel
theorem dX12_wordHere_1 : decode cX12_wordHere 1 = .ok (.ldc2_w 131, 3) := by decide +kernel
theorem dX12_wordHere_4 : decode cX12_wordHere 4 = .ok (.invokevirtual 110, 3) := by decide +kernel
theorem dX12_wordHere_7 : decode cX12_wordHere 7 = .ok (.ifCond .eq 5, 3) := by decide +kernel
theorem dX12_wordHere_10 : decode cX12_wordHere 10 = .ok (.iconst 0, 1) := by decide +kernel
theorem dX12_wordHere_11 : decode cX12_wordHere 11 = .ok (.ireturn, 1) := by decide +kernel
theorem dX12_wordHere_12 : decode cX12_wordHere 12 = .ok (.aload_n 0, 1) := by decide +kernel
theorem dX12_wordHere_13 : decode cX12_wordHere 13 = .ok (.ldc2_w 133, 3) := by decide +kernel
theorem dX12_wordHere_16 : decode cX12_wordHere 16 = .ok (.invokevirtual 110, 3) := by decide +kernel
theorem dX12_wordHere_19 : decode cX12_wordHere 19 = .ok (.ifCond .eq 5, 3) := by decide +kernel
theorem dX12_wordHere_22 : decode cX12_wordHere 22 = .ok (.iconst 1, 1) := by decide +kernel
theorem dX12_wordHere_23 : decode cX12_wordHere 23 = .ok (.ireturn, 1) := by decide +kernel
theorem dX12_wordHere_24 : decode cX12_wordHere 24 = .ok (.aload_n 0, 1) := by decide +kernel
theorem dX12_wordHere_25 : decode cX12_wordHere 25 = .ok (.ldc2_w 135, 3) := by decide +kernel
theorem dX12_wordHere_28 : decode cX12_wordHere 28 = .ok (.invokevirtual 110, 3) := by decide +kernel
theorem dX12_wordHere_31 : decode cX12_wordHere 31 = .ok (.ifCond .eq 5, 3) := by decide +kernel
theorem dX12_wordHere_34 : decode cX12_wordHere 34 = .ok (.iconst 2, 1) := by decide +kernel
theorem dX12_wordHere_35 : decode cX12_wordHere 35 = .ok (.ireturn, 1) := by decide +kernel
theorem dX12_wordHere_36 : decode cX12_wordHere 36 = .ok (.aload_n 0, 1) := by decide +kernel
theorem dX12_wordHere_37 : decode cX12_wordHere 37 = .ok (.ldc2_w 137, 3) := by decide +kernel
theorem dX12_wordHere_40 : decode cX12_wordHere 40 = .ok (.invokevirtual 110, 3) := by decide +kernel
theorem dX12_wordHere_43 : decode cX12_wordHere 43 = .ok (.ifCond .eq 5, 3) := by decide +kernel
theorem dX12_wordHere_46 : decode cX12_wordHere 46 = .ok (.iconst 3, 1) := by decide +kernel
theorem dX12_wordHere_47 : decode cX12_wordHere 47 = .ok (.ireturn, 1) := by decide +kernel
theorem dX12_wordHere_48 : decode cX12_wordHere 48 = .ok (.aload_n 0, 1) := by decide +kernel
theorem dX12_wordHere_49 : decode cX12_wordHere 49 = .ok (.ldc2_w 139, 3) := by decide +kernel
theorem dX12_wordHere_52 : decode cX12_wordHere 52 = .ok (.invokevirtual 110, 3) := by decide +kernel
theorem dX12_wordHere_55 : decode cX12_wordHere 55 = .ok (.ifCond .eq 5, 3) := by decide +kernel
theorem dX12_wordHere_58 : decode cX12_wordHere 58 = .ok (.iconst 4, 1) := by decide +kernel
theorem dX12_wordHere_59 : decode cX12_wordHere 59 = .ok (.ireturn, 1) := by decide +kernel
theorem dX12_wordHere_60 : decode cX12_wordHere 60 = .ok (.aload_n 0, 1) := by decide +kernel
theorem dX12_wordHere_61 : decode cX12_wordHere 61 = .ok (.ldc2_w 141, 3) := by decide +kernel
theorem dX12_wordHere_64 : decode cX12_wordHere 64 = .ok (.invokevirtual 110, 3) := by decide +kernel
theorem dX12_wordHere_67 : decode cX12_wordHere 67 = .ok (.ifCond .eq 5, 3) := by decide +kernel
theorem dX12_wordHere_70 : decode cX12_wordHere 70 = .ok (.iconst 5, 1) := by decide +kernel
theorem dX12_wordHere_71 : decode cX12_wordHere 71 = .ok (.ireturn, 1) := by decide +kernel
theorem dX12_wordHere_72 : decode cX12_wordHere 72 = .ok (.aload_n 0, 1) := by decide +kernel
theorem dX12_wordHere_73 : decode cX12_wordHere 73 = .ok (.ldc2_w 143, 3) := by decide +kernel
theorem dX12_wordHere_76 : decode cX12_wordHere 76 = .ok (.invokevirtual 110, 3) := by decide +kernel
theorem dX12_wordHere_79 : decode cX12_wordHere 79 = .ok (.ifCond .eq 6, 3) := by decide +kernel
theorem dX12_wordHere_82 : decode cX12_wordHere 82 = .ok (.bipush 6, 2) := by decide +kernel
theorem dX12_wordHere_84 : decode cX12_wordHere 84 = .ok (.ireturn, 1) := by decide +kernel
theorem dX12_wordHere_85 : decode cX12_wordHere 85 = .ok (.aload_n 0, 1) := by decide +kernel
theorem dX12_wordHere_86 : decode cX12_wordHere 86 = .ok (.ldc2_w 145, 3) := by decide +kernel
theorem dX12_wordHere_89 : decode cX12_wordHere 89 = .ok (.invokevirtual 110, 3) := by decide +kernel
theorem dX12_wordHere_92 : decode cX12_wordHere 92 = .ok (.ifCond .eq 6, 3) := by decide +kernel
theorem dX12_wordHere_95 : decode cX12_wordHere 95 = .ok (.bipush 7, 2) := by decide +kernel
theorem dX12_wordHere_97 : decode cX12_wordHere 97 = .ok (.ireturn, 1) := by decide +kernel
theorem dX12_wordHere_98 : decode cX12_wordHere 98 = .ok (.aload_n 0, 1) := by decide +kernel
theorem dX12_wordHere_99 : decode cX12_wordHere 99 = .ok (.ldc2_w 147, 3) := by decide +kernel
theorem dX12_wordHere_102 : decode cX12_wordHere 102 = .ok (.invokevirtual 110, 3) := by decide +kernel
theorem dX12_wordHere_105 : decode cX12_wordHere 105 = .ok (.ifCond .eq 6, 3) := by decide +kernel
theorem dX12_wordHere_108 : decode cX12_wordHere 108 = .ok (.bipush 8, 2) := by decide +kernel
theorem dX12_wordHere_110 : decode cX12_wordHere 110 = .ok (.ireturn, 1) := by decide +kernel
theorem dX12_wordHere_111 : decode cX12_wordHere 111 = .ok (.aload_n 0, 1) := by decide +kernel
theorem dX12_wordHere_112 : decode cX12_wordHere 112 = .ok (.ldc2_w 149, 3) := by decide +kernel
theorem dX12_wordHere_115 : decode cX12_wordHere 115 = .ok (.invokevirtual 110, 3) := by decide +kernel
theorem dX12_wordHere_118 : decode cX12_wordHere 118 = .ok (.ifCond .eq 6, 3) := by decide +kernel
theorem dX12_wordHere_121 : decode cX12_wordHere 121 = .ok (.bipush 9, 2) := by decide +kernel
theorem dX12_wordHere_123 : decode cX12_wordHere 123 = .ok (.ireturn, 1) := by decide +kernel
theorem dX12_wordHere_124 : decode cX12_wordHere 124 = .ok (.aload_n 0, 1) := by decide +kernel
theorem dX12_wordHere_125 : decode cX12_wordHere 125 = .ok (.ldc2_w 151, 3) := by decide +kernel
theorem dX12_wordHere_128 : decode cX12_wordHere 128 = .ok (.invokevirtual 110, 3) := by decide +kernel
theorem dX12_wordHere_131 : decode cX12_wordHere 131 = .ok (.ifCond .eq 8, 3) := by decide +kernel
theorem dX12_wordHere_134 : decode cX12_wordHere 134 = .ok (.bipush 10, 2) := by decide +kernel
theorem dX12_wordHere_136 : decode cX12_wordHere 136 = .ok (.goto 19, 3) := by decide +kernel
theorem dX12_wordHere_139 : decode cX12_wordHere 139 = .ok (.aload_n 0, 1) := by decide +kernel
theorem dX12_wordHere_140 : decode cX12_wordHere 140 = .ok (.ldc2_w 153, 3) := by decide +kernel
theorem dX12_wordHere_143 : decode cX12_wordHere 143 = .ok (.invokevirtual 110, 3) := by decide +kernel
theorem dX12_wordHere_146 : decode cX12_wordHere 146 = .ok (.ifCond .eq 8, 3) := by decide +kernel
theorem dX12_wordHere_149 : decode cX12_wordHere 149 = .ok (.bipush 11, 2) := by decide +kernel
theorem dX12_wordHere_151 : decode cX12_wordHere 151 = .ok (.goto 4, 3) := by decide +kernel
theorem dX12_wordHere_154 : decode cX12_wordHere 154 = .ok (.iconst (-1), 1) := by decide +kernel
theorem dX12_wordHere_155 : decode cX12_wordHere 155 = .ok (.ireturn, 1) := by decide +kernel
def m_wordHere (N : Nat) (M : jMem) : Option (Int × jMem) := jb1 (m_isWord N 422826304613 M) fun r1 M2 => (if r1 = 0 then jb1 (m_isWord N 444301537133 M2) fun r3 M4 => (if r3 = 0 then jb1 (m_isWord N 1751478899 M4) fun r5 M6 => (if r5 = 0 then jb1 (m_isWord N 6842739 M6) fun r7 M8 => (if r7 = 0 then jb1 (m_isWord N 495924372852 M8) fun r9 M10 => (if r9 = 0 then jb1 (m_isWord N 1936684402 M10) fun r11 M12 => (if r11 = 0 then jb1 (m_isWord N 1718971500 M12) fun r13 M14 => (if r13 = 0 then jb1 (m_isWord N 7106423 M14) fun r15 M16 => (if r15 = 0 then jb1 (m_isWord N 448378008179 M16) fun r17 M18 => (if r17 = 0 then jb1 (m_isWord N 1752132965 M18) fun r19 M20 => (if r19 = 0 then jb1 (m_isWord N 6582905 M20) fun r21 M22 => (if r21 = 0 then jb1 (m_isWord N 2036687218 M22) fun r23 M24 => (if r23 = 0 then some ((-1), M24) else some (11, M24)) else some (10, M22)) else some (9, M20)) else some (8, M18)) else some (7, M16)) else some (6, M14)) else some (5, M12)) else some (4, M10)) else some (3, M8)) else some (2, M6)) else some (1, M4)) else some (0, M2))
theorem c_m_wordHere {l : Launch} {g : jG} (N : Nat) (M : jMem)  : ∀ o, m_wordHere N  M = some o → jCt l g jTM yX12_wordHere cX12_wordHere 1 (some .int) 0 5 [(2, 0)] M o := by
  refine jMet (own := RX12) (em := id) (L := [(0, 2, 0)]) (by decide +kernel) rfl (Nat.le_of_ble_eq_true rfl) rfl (fun K hR => ?_)
  unfold m_wordHere
  refine z_aload_n (pc := 0) hR 0 dX12_wordHere_0 rfl rfl ?_
  refine z_ldc2 (pc := 1) hR (n := 422826304613) jc_RX12_131 (by decide) rfl dX12_wordHere_1 ?_
  refine z_callv1 (pc := 4) hR (As := [(1, 422826304613)]) (st := []) jm_X12_isWord jl_RX12_110 kmo_0 (by decide) rfl (by decide) (c_m_isWord N 422826304613 M) rfl (by decide) (by decide) rfl (Nat.le_of_ble_eq_true rfl) dX12_wordHere_4 (fun r1 M2 => ?_)
  refine z_ifeq (pc := 7) (tgt := 12) hR dX12_wordHere_7 (by decide) ?_ ?_
  · refine z_aload_n (pc := 12) hR 0 dX12_wordHere_12 rfl rfl ?_
    refine z_ldc2 (pc := 13) hR (n := 444301537133) jc_RX12_133 (by decide) rfl dX12_wordHere_13 ?_
    refine z_callv1 (pc := 16) hR (As := [(1, 444301537133)]) (st := []) jm_X12_isWord jl_RX12_110 kmo_0 (by decide) rfl (by decide) (c_m_isWord N 444301537133 M2) rfl (by decide) (by decide) rfl (Nat.le_of_ble_eq_true rfl) dX12_wordHere_16 (fun r3 M4 => ?_)
    refine z_ifeq (pc := 19) (tgt := 24) hR dX12_wordHere_19 (by decide) ?_ ?_
    · refine z_aload_n (pc := 24) hR 0 dX12_wordHere_24 rfl rfl ?_
      refine z_ldc2 (pc := 25) hR (n := 1751478899) jc_RX12_135 (by decide) rfl dX12_wordHere_25 ?_
      refine z_callv1 (pc := 28) hR (As := [(1, 1751478899)]) (st := []) jm_X12_isWord jl_RX12_110 kmo_0 (by decide) rfl (by decide) (c_m_isWord N 1751478899 M4) rfl (by decide) (by decide) rfl (Nat.le_of_ble_eq_true rfl) dX12_wordHere_28 (fun r5 M6 => ?_)
      refine z_ifeq (pc := 31) (tgt := 36) hR dX12_wordHere_31 (by decide) ?_ ?_
      · refine z_aload_n (pc := 36) hR 0 dX12_wordHere_36 rfl rfl ?_
        refine z_ldc2 (pc := 37) hR (n := 6842739) jc_RX12_137 (by decide) rfl dX12_wordHere_37 ?_
        refine z_callv1 (pc := 40) hR (As := [(1, 6842739)]) (st := []) jm_X12_isWord jl_RX12_110 kmo_0 (by decide) rfl (by decide) (c_m_isWord N 6842739 M6) rfl (by decide) (by decide) rfl (Nat.le_of_ble_eq_true rfl) dX12_wordHere_40 (fun r7 M8 => ?_)
        refine z_ifeq (pc := 43) (tgt := 48) hR dX12_wordHere_43 (by decide) ?_ ?_
        · refine z_aload_n (pc := 48) hR 0 dX12_wordHere_48 rfl rfl ?_
          refine z_ldc2 (pc := 49) hR (n := 495924372852) jc_RX12_139 (by decide) rfl dX12_wordHere_49 ?_
          refine z_callv1 (pc := 52) hR (As := [(1, 495924372852)]) (st := []) jm_X12_isWord jl_RX12_110 kmo_0 (by decide) rfl (by decide) (c_m_isWord N 495924372852 M8) rfl (by decide) (by decide) rfl (Nat.le_of_ble_eq_true rfl) dX12_wordHere_52 (fun r9 M10 => ?_)
          refine z_ifeq (pc := 55) (tgt := 60) hR dX12_wordHere_55 (by decide) ?_ ?_
          · refine z_aload_n (pc := 60) hR 0 dX12_wordHere_60 rfl rfl ?_
            refine z_ldc2 (pc := 61) hR (n := 1936684402) jc_RX12_141 (by decide) rfl dX12_wordHere_61 ?_
            refine z_callv1 (pc := 64) hR (As := [(1, 1936684402)]) (st := []) jm_X12_isWord jl_RX12_110 kmo_0 (by decide) rfl (by decide) (c_m_isWord N 1936684402 M10) rfl (by decide) (by decide) rfl (Nat.le_of_ble_eq_true rfl) dX12_wordHere_64 (fun r11 M12 => ?_)
            refine z_ifeq (pc := 67) (tgt := 72) hR dX12_wordHere_67 (by decide) ?_ ?_
            · refine z_aload_n (pc := 72) hR 0 dX12_wordHere_72 rfl rfl ?_
              refine z_ldc2 (pc := 73) hR (n := 1718971500) jc_RX12_143 (by decide) rfl dX12_wordHere_73 ?_
              refine z_callv1 (pc := 76) hR (As := [(1, 1718971500)]) (st := []) jm_X12_isWord jl_RX12_110 kmo_0 (by decide) rfl (by decide) (c_m_isWord N 1718971500 M12) rfl (by decide) (by decide) rfl (Nat.le_of_ble_eq_true rfl) dX12_wordHere_76 (fun r13 M14 => ?_)
              refine z_ifeq (pc := 79) (tgt := 85) hR dX12_wordHere_79 (by decide) ?_ ?_
              · refine z_aload_n (pc := 85) hR 0 dX12_wordHere_85 rfl rfl ?_
                refine z_ldc2 (pc := 86) hR (n := 7106423) jc_RX12_145 (by decide) rfl dX12_wordHere_86 ?_
                refine z_callv1 (pc := 89) hR (As := [(1, 7106423)]) (st := []) jm_X12_isWord jl_RX12_110 kmo_0 (by decide) rfl (by decide) (c_m_isWord N 7106423 M14) rfl (by decide) (by decide) rfl (Nat.le_of_ble_eq_true rfl) dX12_wordHere_89 (fun r15 M16 => ?_)
                refine z_ifeq (pc := 92) (tgt := 98) hR dX12_wordHere_92 (by decide) ?_ ?_
                · refine z_aload_n (pc := 98) hR 0 dX12_wordHere_98 rfl rfl ?_
                  refine z_ldc2 (pc := 99) hR (n := 448378008179) jc_RX12_147 (by decide) rfl dX12_wordHere_99 ?_
                  refine z_callv1 (pc := 102) hR (As := [(1, 448378008179)]) (st := []) jm_X12_isWord jl_RX12_110 kmo_0 (by decide) rfl (by decide) (c_m_isWord N 448378008179 M16) rfl (by decide) (by decide) rfl (Nat.le_of_ble_eq_true rfl) dX12_wordHere_102 (fun r17 M18 => ?_)
                  refine z_ifeq (pc := 105) (tgt := 111) hR dX12_wordHere_105 (by decide) ?_ ?_
                  · refine z_aload_n (pc := 111) hR 0 dX12_wordHere_111 rfl rfl ?_
                    refine z_ldc2 (pc := 112) hR (n := 1752132965) jc_RX12_149 (by decide) rfl dX12_wordHere_112 ?_
                    refine z_callv1 (pc := 115) hR (As := [(1, 1752132965)]) (st := []) jm_X12_isWord jl_RX12_110 kmo_0 (by decide) rfl (by decide) (c_m_isWord N 1752132965 M18) rfl (by decide) (by decide) rfl (Nat.le_of_ble_eq_true rfl) dX12_wordHere_115 (fun r19 M20 => ?_)
                    refine z_ifeq (pc := 118) (tgt := 124) hR dX12_wordHere_118 (by decide) ?_ ?_
                    · refine z_aload_n (pc := 124) hR 0 dX12_wordHere_124 rfl rfl ?_
                      refine z_ldc2 (pc := 125) hR (n := 6582905) jc_RX12_151 (by decide) rfl dX12_wordHere_125 ?_
                      refine z_callv1 (pc := 128) hR (As := [(1, 6582905)]) (st := []) jm_X12_isWord jl_RX12_110 kmo_0 (by decide) rfl (by decide) (c_m_isWord N 6582905 M20) rfl (by decide) (by decide) rfl (Nat.le_of_ble_eq_true rfl) dX12_wordHere_128 (fun r21 M22 => ?_)
                      refine z_ifeq (pc := 131) (tgt := 139) hR dX12_wordHere_131 (by decide) ?_ ?_
                      · refine z_aload_n (pc := 139) hR 0 dX12_wordHere_139 rfl rfl ?_
                        refine z_ldc2 (pc := 140) hR (n := 2036687218) jc_RX12_153 (by decide) rfl dX12_wordHere_140 ?_
                        refine z_callv1 (pc := 143) hR (As := [(1, 2036687218)]) (st := []) jm_X12_isWord jl_RX12_110 kmo_0 (by decide) rfl (by decide) (c_m_isWord N 2036687218 M22) rfl (by decide) (by decide) rfl (Nat.le_of_ble_eq_true rfl) dX12_wordHere_143 (fun r23 M24 => ?_)
                        refine z_ifeq (pc := 146) (tgt := 154) hR dX12_wordHere_146 (by decide) ?_ ?_
                        · refine z_iconst (pc := 154) hR dX12_wordHere_154 rfl ?_
                          exact z_ireturn (pc := 155) hR rfl rfl dX12_wordHere_155 rfl
                        · refine z_bipush (pc := 149) hR dX12_wordHere_149 rfl ?_
                          refine z_goto (pc := 151) (tgt := 155) hR dX12_wordHere_151 (by decide) ?_
                          exact z_ireturn (pc := 155) hR rfl rfl dX12_wordHere_155 rfl
                      · refine z_bipush (pc := 134) hR dX12_wordHere_134 rfl ?_
                        refine z_goto (pc := 136) (tgt := 155) hR dX12_wordHere_136 (by decide) ?_
                        exact z_ireturn (pc := 155) hR rfl rfl dX12_wordHere_155 rfl
                    · refine z_bipush (pc := 121) hR dX12_wordHere_121 rfl ?_
                      exact z_ireturn (pc := 123) hR rfl rfl dX12_wordHere_123 rfl
                  · refine z_bipush (pc := 108) hR dX12_wordHere_108 rfl ?_
                    exact z_ireturn (pc := 110) hR rfl rfl dX12_wordHere_110 rfl
                · refine z_bipush (pc := 95) hR dX12_wordHere_95 rfl ?_
                  exact z_ireturn (pc := 97) hR rfl rfl dX12_wordHere_97 rfl
              · refine z_bipush (pc := 82) hR dX12_wordHere_82 rfl ?_
                exact z_ireturn (pc := 84) hR rfl rfl dX12_wordHere_84 rfl
            · refine z_iconst (pc := 70) hR dX12_wordHere_70 rfl ?_
              exact z_ireturn (pc := 71) hR rfl rfl dX12_wordHere_71 rfl
          · refine z_iconst (pc := 58) hR dX12_wordHere_58 rfl ?_
            exact z_ireturn (pc := 59) hR rfl rfl dX12_wordHere_59 rfl
        · refine z_iconst (pc := 46) hR dX12_wordHere_46 rfl ?_
          exact z_ireturn (pc := 47) hR rfl rfl dX12_wordHere_47 rfl
      · refine z_iconst (pc := 34) hR dX12_wordHere_34 rfl ?_
        exact z_ireturn (pc := 35) hR rfl rfl dX12_wordHere_35 rfl
    · refine z_iconst (pc := 22) hR dX12_wordHere_22 rfl ?_
      exact z_ireturn (pc := 23) hR rfl rfl dX12_wordHere_23 rfl
  · refine z_iconst (pc := 10) hR dX12_wordHere_10 rfl ?_
    exact z_ireturn (pc := 11) hR rfl rfl dX12_wordHere_11 rfl
theorem dX12_puts_0 : decode cX12_puts 0 = .ok (.aload_n 0, 1) := by decide +kernel
theorem dX12_puts_1 : decode cX12_puts 1 = .ok (.getfield 13, 3) := by decide +kernel
theorem dX12_puts_4 : decode cX12_puts 4 = .ok (.sipush 400, 3) := by decide +kernel
theorem dX12_puts_7 : decode cX12_puts 7 = .ok (.aload_n 0, 1) := by decide +kernel
theorem dX12_puts_8 : decode cX12_puts 8 = .ok (.getfield 155, 3) := by decide +kernel
theorem dX12_puts_11 : decode cX12_puts 11 = .ok (.imul, 1) := by decide +kernel
theorem dX12_puts_12 : decode cX12_puts 12 = .ok (.aload_n 0, 1) := by decide +kernel
theorem dX12_puts_13 : decode cX12_puts 13 = .ok (.getfield 17, 3) := by decide +kernel
theorem dX12_puts_16 : decode cX12_puts 16 = .ok (.aload_n 0, 1) := by decide +kernel
theorem dX12_puts_17 : decode cX12_puts 17 = .ok (.getfield 155, 3) := by decide +kernel
theorem dX12_puts_20 : decode cX12_puts 20 = .ok (.iaload, 1) := by decide +kernel
theorem dX12_puts_21 : decode cX12_puts 21 = .ok (.iadd, 1) := by decide +kernel
theorem dX12_puts_22 : decode cX12_puts 22 = .ok (.iload_n 1, 1) := by decide +kernel
theorem dX12_puts_23 : decode cX12_puts 23 = .ok (.bipush 16, 2) := by decide +kernel
theorem dX12_puts_25 : decode cX12_puts 25 = .ok (.iload_n 2, 1) := by decide +kernel
theorem dX12_puts_26 : decode cX12_puts 26 = .ok (.imul, 1) := by decide +kernel
theorem dX12_puts_27 : decode cX12_puts 27 = .ok (.iadd, 1) := by decide +kernel
theorem dX12_puts_28 : decode cX12_puts 28 = .ok (.iastore, 1) := by decide +kernel
theorem dX12_puts_29 : decode cX12_puts 29 = .ok (.aload_n 0, 1) := by decide +kernel
theorem dX12_puts_30 : decode cX12_puts 30 = .ok (.getfield 17, 3) := by decide +kernel
theorem dX12_puts_33 : decode cX12_puts 33 = .ok (.aload_n 0, 1) := by decide +kernel
theorem dX12_puts_34 : decode cX12_puts 34 = .ok (.getfield 155, 3) := by decide +kernel
theorem dX12_puts_37 : decode cX12_puts 37 = .ok (.dup2, 1) := by decide +kernel
theorem dX12_puts_38 : decode cX12_puts 38 = .ok (.iaload, 1) := by decide +kernel
theorem dX12_puts_39 : decode cX12_puts 39 = .ok (.iconst 1, 1) := by decide +kernel
theorem dX12_puts_40 : decode cX12_puts 40 = .ok (.iadd, 1) := by decide +kernel
theorem dX12_puts_41 : decode cX12_puts 41 = .ok (.iastore, 1) := by decide +kernel
theorem dX12_puts_42 : decode cX12_puts 42 = .ok (.return_, 1) := by decide +kernel
def m_puts (N : Nat) (a1 a2 : Int) (M : jMem) : Option (Int × jMem) := jchk (0 ≤ (M 0 11) ∧ (M 0 11) < 7) <| jchk (0 ≤ (w32 (((w32 (400 * ((M 0 11))))) + ((M 3 ((M 0 11)))))) ∧ (w32 (((w32 (400 * ((M 0 11))))) + ((M 3 ((M 0 11)))))) < 2400) <| jlt (up M 2 ((w32 (((w32 (400 * ((M 0 11))))) + ((M 3 ((M 0 11))))))) ((w32 (a1 + ((w32 (16 * a2))))))) fun M3 => jchk (0 ≤ (M3 0 11) ∧ (M3 0 11) < 7) <| jchk (0 ≤ (M3 0 11) ∧ (M3 0 11) < 7) <| jlt (up M3 3 ((M3 0 11)) ((w32 (((M3 3 ((M3 0 11)))) + 1)))) fun M6 => some (0, M6)
theorem c_m_puts {l : Launch} {g : jG} (N : Nat) (a1 a2 : Int) (M : jMem)  : ∀ o, m_puts N a1 a2 M = some o → jCt l g jTM yX12_puts cX12_puts 3 none 3 1 [(2, 0), (0, a1), (0, a2)] M o := by
  refine jMet (own := RX12) (em := id) (L := [(0, 2, 0), (1, 0, a1), (2, 0, a2)]) (by decide +kernel) rfl (Nat.le_of_ble_eq_true rfl) rfl (fun K hR => ?_)
  unfold m_puts
  refine z_aload_n (pc := 0) hR 0 dX12_puts_0 rfl rfl ?_
  refine z_getr (pc := 1) hR (c0 := 2) (r := 2) jf_RX12_13 kmo_0 (by decide) rfl rfl dX12_puts_1 ?_
  refine z_sipush (pc := 4) hR dX12_puts_4 rfl ?_
  refine z_aload_n (pc := 7) hR 0 dX12_puts_7 rfl rfl ?_
  refine z_geti (pc := 8) hR (j := 11) jf_RX12_155 kmo_0 (by decide) rfl rfl dX12_puts_8 ?_
  refine z_imul (pc := 11) hR dX12_puts_11 ?_
  refine z_aload_n (pc := 12) hR 0 dX12_puts_12 rfl rfl ?_
  refine z_getr (pc := 13) hR (c0 := 3) (r := 3) jf_RX12_17 kmo_0 (by decide) rfl rfl dX12_puts_13 ?_
  refine z_aload_n (pc := 16) hR 0 dX12_puts_16 rfl rfl ?_
  refine z_geti (pc := 17) hR (j := 11) jf_RX12_155 kmo_0 (by decide) rfl rfl dX12_puts_17 ?_
  refine z_chk (fun hc1 => ?_)
  refine z_iald (pc := 20) hR (n := 7) kma_3 hc1.1 hc1.2 dX12_puts_20 ?_
  refine z_iadd (pc := 21) hR dX12_puts_21 ?_
  refine z_iload_n (pc := 22) hR 1 dX12_puts_22 rfl rfl ?_
  refine z_bipush (pc := 23) hR dX12_puts_23 rfl ?_
  refine z_iload_n (pc := 25) hR 2 dX12_puts_25 rfl rfl ?_
  refine z_imul (pc := 26) hR dX12_puts_26 ?_
  refine z_iadd (pc := 27) hR dX12_puts_27 ?_
  refine z_chk (fun hc2 => ?_)
  refine z_iast (pc := 28) hR (n := 2400) kma_2 hc2.1 hc2.2 dX12_puts_28 (fun M3 => ?_)
  refine z_aload_n (pc := 29) hR 0 dX12_puts_29 rfl rfl ?_
  refine z_getr (pc := 30) hR (c0 := 3) (r := 3) jf_RX12_17 kmo_0 (by decide) rfl rfl dX12_puts_30 ?_
  refine z_aload_n (pc := 33) hR 0 dX12_puts_33 rfl rfl ?_
  refine z_geti (pc := 34) hR (j := 11) jf_RX12_155 kmo_0 (by decide) rfl rfl dX12_puts_34 ?_
  refine z_dup2 (pc := 37) hR dX12_puts_37 (by decide) (by decide) ?_
  refine z_chk (fun hc4 => ?_)
  refine z_iald (pc := 38) hR (n := 7) kma_3 hc4.1 hc4.2 dX12_puts_38 ?_
  refine z_iconst (pc := 39) hR dX12_puts_39 rfl ?_
  refine z_iadd (pc := 40) hR dX12_puts_40 ?_
  refine z_chk (fun hc5 => ?_)
  refine z_iast (pc := 41) hR (n := 7) kma_3 hc5.1 hc5.2 dX12_puts_41 (fun M6 => ?_)
  exact z_return (x := 0) (pc := 42) hR rfl rfl dX12_puts_42 rfl
theorem dX12_makes_0 : decode cX12_makes 0 = .ok (.aload_n 0, 1) := by decide +kernel
theorem dX12_makes_1 : decode cX12_makes 1 = .ok (.getfield 158, 3) := by decide +kernel
theorem dX12_makes_4 : decode cX12_makes 4 = .ok (.bipush 60, 2) := by decide +kernel
theorem dX12_makes_6 : decode cX12_makes 6 = .ok (.if_icmp .ne 10, 3) := by decide +kernel
theorem dX12_makes_9 : decode cX12_makes 9 = .ok (.aload_n 0, 1) := by decide +kernel
theorem dX12_makes_10 : decode cX12_makes 10 = .ok (.iconst 3, 1) := by decide +kernel
theorem dX12_makes_11 : decode cX12_makes 11 = .ok (.iload_n 1, 1) := by decide +kernel
theorem dX12_makes_12 : decode cX12_makes 12 = .ok (.invokevirtual 120, 3) := by decide +kernel
theorem dX12_makes_15 : decode cX12_makes 15 = .ok (.ireturn, 1) := by decide +kernel
theorem dX12_makes_16 : decode cX12_makes 16 = .ok (.aload_n 0, 1) := by decide +kernel
theorem dX12_makes_17 : decode cX12_makes 17 = .ok (.dup, 1) := by decide +kernel
theorem dX12_makes_18 : decode cX12_makes 18 = .ok (.getfield 158, 3) := by decide +kernel
theorem dX12_makes_21 : decode cX12_makes 21 = .ok (.iconst 1, 1) := by decide +kernel
theorem dX12_makes_22 : decode cX12_makes 22 = .ok (.iadd, 1) := by decide +kernel
theorem dX12_makes_23 : decode cX12_makes 23 = .ok (.putfield 158, 3) := by decide +kernel
theorem dX12_makes_26 : decode cX12_makes 26 = .ok (.iconst 1, 1) := by decide +kernel
theorem dX12_makes_27 : decode cX12_makes 27 = .ok (.ireturn, 1) := by decide +kernel
def m_makes (N : Nat) (a1 : Int) (M : jMem) : Option (Int × jMem) := (if (M 0 12) = 60 then jb1 (m_fails N 3 a1 M) fun r2 M3 => jchk (r2 = 0 ∨ r2 = 1) <| some (r2, M3) else jlt (up M 0 12 ((w32 (((M 0 12)) + 1)))) fun M1 => some (1, M1))
theorem c_m_makes {l : Launch} {g : jG} (N : Nat) (a1 : Int) (M : jMem)  : ∀ o, m_makes N a1 M = some o → jCt l g jTM yX12_makes cX12_makes 2 (some .boolean) 0 3 [(2, 0), (0, a1)] M o := by
  refine jMet (own := RX12) (em := id) (L := [(0, 2, 0), (1, 0, a1)]) (by decide +kernel) rfl (Nat.le_of_ble_eq_true rfl) rfl (fun K hR => ?_)
  unfold m_makes
  refine z_aload_n (pc := 0) hR 0 dX12_makes_0 rfl rfl ?_
  refine z_geti (pc := 1) hR (j := 12) jf_RX12_158 kmo_0 (by decide) rfl rfl dX12_makes_1 ?_
  refine z_bipush (pc := 4) hR dX12_makes_4 rfl ?_
  refine z_icmpne (pc := 6) (tgt := 16) hR dX12_makes_6 (by decide) ?_ ?_
  · refine z_aload_n (pc := 16) hR 0 dX12_makes_16 rfl rfl ?_
    refine z_dup (pc := 17) hR dX12_makes_17 (by decide) ?_
    refine z_geti (pc := 18) hR (j := 12) jf_RX12_158 kmo_0 (by decide) rfl rfl dX12_makes_18 ?_
    refine z_iconst (pc := 21) hR dX12_makes_21 rfl ?_
    refine z_iadd (pc := 22) hR dX12_makes_22 ?_
    refine z_puti (pc := 23) hR (j := 12) jp_RX12_158 kmo_0 (by decide) rfl rfl rfl rfl dX12_makes_23 (fun M1 => ?_)
    refine z_iconst (pc := 26) hR dX12_makes_26 rfl ?_
    exact z_zreturn (pc := 27) hR rfl rfl (Or.inr rfl) dX12_makes_27 rfl
  · refine z_aload_n (pc := 9) hR 0 dX12_makes_9 rfl rfl ?_
    refine z_iconst (pc := 10) hR dX12_makes_10 rfl ?_
    refine z_iload_n (pc := 11) hR 1 dX12_makes_11 rfl rfl ?_
    refine z_callv1 (pc := 12) hR (As := [(0, 3), (0, a1)]) (st := []) jm_X12_fails jl_RX12_120 kmo_0 (by decide) rfl (by decide) (c_m_fails N 3 a1 M) rfl (by decide) (by decide) rfl (Nat.le_of_ble_eq_true rfl) dX12_makes_12 (fun r2 M3 => ?_)
    refine z_chk (fun hc4 => ?_)
    exact z_zreturn (pc := 15) hR rfl rfl hc4 dX12_makes_15 rfl
theorem dX12_opens_0 : decode cX12_opens 0 = .ok (.aload_n 0, 1) := by decide +kernel
theorem dX12_opens_1 : decode cX12_opens 1 = .ok (.getfield 161, 3) := by decide +kernel
theorem dX12_opens_4 : decode cX12_opens 4 = .ok (.bipush 10, 2) := by decide +kernel
theorem dX12_opens_6 : decode cX12_opens 6 = .ok (.if_icmp .ne 13, 3) := by decide +kernel
theorem dX12_opens_9 : decode cX12_opens 9 = .ok (.aload_n 0, 1) := by decide +kernel
theorem dX12_opens_10 : decode cX12_opens 10 = .ok (.iconst 2, 1) := by decide +kernel
theorem dX12_opens_11 : decode cX12_opens 11 = .ok (.aload_n 0, 1) := by decide +kernel
theorem dX12_opens_12 : decode cX12_opens 12 = .ok (.getfield 99, 3) := by decide +kernel
theorem dX12_opens_15 : decode cX12_opens 15 = .ok (.invokevirtual 120, 3) := by decide +kernel
theorem dX12_opens_18 : decode cX12_opens 18 = .ok (.ireturn, 1) := by decide +kernel
theorem dX12_opens_19 : decode cX12_opens 19 = .ok (.aload_n 0, 1) := by decide +kernel
theorem dX12_opens_20 : decode cX12_opens 20 = .ok (.dup, 1) := by decide +kernel
theorem dX12_opens_21 : decode cX12_opens 21 = .ok (.getfield 161, 3) := by decide +kernel
theorem dX12_opens_24 : decode cX12_opens 24 = .ok (.iconst 1, 1) := by decide +kernel
theorem dX12_opens_25 : decode cX12_opens 25 = .ok (.iadd, 1) := by decide +kernel
theorem dX12_opens_26 : decode cX12_opens 26 = .ok (.putfield 161, 3) := by decide +kernel
theorem dX12_opens_29 : decode cX12_opens 29 = .ok (.aload_n 0, 1) := by decide +kernel
theorem dX12_opens_30 : decode cX12_opens 30 = .ok (.getfield 29, 3) := by decide +kernel
theorem dX12_opens_33 : decode cX12_opens 33 = .ok (.aload_n 0, 1) := by decide +kernel
theorem dX12_opens_34 : decode cX12_opens 34 = .ok (.getfield 164, 3) := by decide +kernel
theorem dX12_opens_37 : decode cX12_opens 37 = .ok (.iload_n 1, 1) := by decide +kernel
theorem dX12_opens_38 : decode cX12_opens 38 = .ok (.iastore, 1) := by decide +kernel
theorem dX12_opens_39 : decode cX12_opens 39 = .ok (.aload_n 0, 1) := by decide +kernel
theorem dX12_opens_40 : decode cX12_opens 40 = .ok (.dup, 1) := by decide +kernel
theorem dX12_opens_41 : decode cX12_opens 41 = .ok (.getfield 164, 3) := by decide +kernel
theorem dX12_opens_44 : decode cX12_opens 44 = .ok (.iconst 1, 1) := by decide +kernel
theorem dX12_opens_45 : decode cX12_opens 45 = .ok (.iadd, 1) := by decide +kernel
theorem dX12_opens_46 : decode cX12_opens 46 = .ok (.putfield 164, 3) := by decide +kernel
theorem dX12_opens_49 : decode cX12_opens 49 = .ok (.iconst 1, 1) := by decide +kernel
theorem dX12_opens_50 : decode cX12_opens 50 = .ok (.ireturn, 1) := by decide +kernel
def m_opens (N : Nat) (a1 : Int) (M : jMem) : Option (Int × jMem) := (if (M 0 13) = 10 then jb1 (m_fails N 2 ((M 0 8)) M) fun r5 M6 => jchk (r5 = 0 ∨ r5 = 1) <| some (r5, M6) else jlt (up M 0 13 ((w32 (((M 0 13)) + 1)))) fun M1 => jchk (0 ≤ (M1 0 16) ∧ (M1 0 16) < 400) <| jlt (up M1 7 ((M1 0 16)) a1) fun M3 => jlt (up M3 0 16 ((w32 (((M3 0 16)) + 1)))) fun M4 => some (1, M4))
theorem c_m_opens {l : Launch} {g : jG} (N : Nat) (a1 : Int) (M : jMem)  : ∀ o, m_opens N a1 M = some o → jCt l g jTM yX12_opens cX12_opens 2 (some .boolean) 0 3 [(2, 0), (0, a1)] M o := by
  refine jMet (own := RX12) (em := id) (L := [(0, 2, 0), (1, 0, a1)]) (by decide +kernel) rfl (Nat.le_of_ble_eq_true rfl) rfl (fun K hR => ?_)
  unfold m_opens
  refine z_aload_n (pc := 0) hR 0 dX12_opens_0 rfl rfl ?_
  refine z_geti (pc := 1) hR (j := 13) jf_RX12_161 kmo_0 (by decide) rfl rfl dX12_opens_1 ?_
  refine z_bipush (pc := 4) hR dX12_opens_4 rfl ?_
  refine z_icmpne (pc := 6) (tgt := 19) hR dX12_opens_6 (by decide) ?_ ?_
  · refine z_aload_n (pc := 19) hR 0 dX12_opens_19 rfl rfl ?_
    refine z_dup (pc := 20) hR dX12_opens_20 (by decide) ?_
    refine z_geti (pc := 21) hR (j := 13) jf_RX12_161 kmo_0 (by decide) rfl rfl dX12_opens_21 ?_
    refine z_iconst (pc := 24) hR dX12_opens_24 rfl ?_
    refine z_iadd (pc := 25) hR dX12_opens_25 ?_
    refine z_puti (pc := 26) hR (j := 13) jp_RX12_161 kmo_0 (by decide) rfl rfl rfl rfl dX12_opens_26 (fun M1 => ?_)
    refine z_aload_n (pc := 29) hR 0 dX12_opens_29 rfl rfl ?_
    refine z_getr (pc := 30) hR (c0 := 7) (r := 7) jf_RX12_29 kmo_0 (by decide) rfl rfl dX12_opens_30 ?_
    refine z_aload_n (pc := 33) hR 0 dX12_opens_33 rfl rfl ?_
    refine z_geti (pc := 34) hR (j := 16) jf_RX12_164 kmo_0 (by decide) rfl rfl dX12_opens_34 ?_
    refine z_iload_n (pc := 37) hR 1 dX12_opens_37 rfl rfl ?_
    refine z_chk (fun hc2 => ?_)
    refine z_iast (pc := 38) hR (n := 400) kma_7 hc2.1 hc2.2 dX12_opens_38 (fun M3 => ?_)
    refine z_aload_n (pc := 39) hR 0 dX12_opens_39 rfl rfl ?_
    refine z_dup (pc := 40) hR dX12_opens_40 (by decide) ?_
    refine z_geti (pc := 41) hR (j := 16) jf_RX12_164 kmo_0 (by decide) rfl rfl dX12_opens_41 ?_
    refine z_iconst (pc := 44) hR dX12_opens_44 rfl ?_
    refine z_iadd (pc := 45) hR dX12_opens_45 ?_
    refine z_puti (pc := 46) hR (j := 16) jp_RX12_164 kmo_0 (by decide) rfl rfl rfl rfl dX12_opens_46 (fun M4 => ?_)
    refine z_iconst (pc := 49) hR dX12_opens_49 rfl ?_
    exact z_zreturn (pc := 50) hR rfl rfl (Or.inr rfl) dX12_opens_50 rfl
  · refine z_aload_n (pc := 9) hR 0 dX12_opens_9 rfl rfl ?_
    refine z_iconst (pc := 10) hR dX12_opens_10 rfl ?_
    refine z_aload_n (pc := 11) hR 0 dX12_opens_11 rfl rfl ?_
    refine z_geti (pc := 12) hR (j := 8) jf_RX12_99 kmo_0 (by decide) rfl rfl dX12_opens_12 ?_
    refine z_callv1 (pc := 15) hR (As := [(0, 2), (0, (M 0 8))]) (st := []) jm_X12_fails jl_RX12_120 kmo_0 (by decide) rfl (by decide) (c_m_fails N 2 ((M 0 8)) M) rfl (by decide) (by decide) rfl (Nat.le_of_ble_eq_true rfl) dX12_opens_15 (fun r5 M6 => ?_)
    refine z_chk (fun hc7 => ?_)
    exact z_zreturn (pc := 18) hR rfl rfl hc7 dX12_opens_18 rfl
theorem dX12_strength_0 : decode cX12_strength 0 = .ok (.iload_n 0, 1) := by decide +kernel
theorem dX12_strength_1 : decode cX12_strength 1 = .ok (.bipush 13, 2) := by decide +kernel
theorem dX12_strength_3 : decode cX12_strength 3 = .ok (.if_icmp .ne 7, 3) := by decide +kernel
theorem dX12_strength_6 : decode cX12_strength 6 = .ok (.iconst 1, 1) := by decide +kernel
theorem dX12_strength_7 : decode cX12_strength 7 = .ok (.goto 24, 3) := by decide +kernel
theorem dX12_strength_10 : decode cX12_strength 10 = .ok (.iload_n 0, 1) := by decide +kernel
theorem dX12_strength_11 : decode cX12_strength 11 = .ok (.bipush 12, 2) := by decide +kernel
theorem dX12_strength_13 : decode cX12_strength 13 = .ok (.if_icmp .ne 7, 3) := by decide +kernel
theorem dX12_strength_16 : decode cX12_strength 16 = .ok (.iconst 2, 1) := by decide +kernel
theorem dX12_strength_17 : decode cX12_strength 17 = .ok (.goto 14, 3) := by decide +kernel
theorem dX12_strength_20 : decode cX12_strength 20 = .ok (.iload_n 0, 1) := by decide +kernel
theorem dX12_strength_21 : decode cX12_strength 21 = .ok (.bipush 11, 2) := by decide +kernel
theorem dX12_strength_23 : decode cX12_strength 23 = .ok (.if_icmp .ne 7, 3) := by decide +kernel
theorem dX12_strength_26 : decode cX12_strength 26 = .ok (.iconst 3, 1) := by decide +kernel
theorem dX12_strength_27 : decode cX12_strength 27 = .ok (.goto 4, 3) := by decide +kernel
theorem dX12_strength_30 : decode cX12_strength 30 = .ok (.iconst 0, 1) := by decide +kernel
theorem dX12_strength_31 : decode cX12_strength 31 = .ok (.ireturn, 1) := by decide +kernel
def m_strength (N : Nat) (a0 : Int) (M : jMem) : Option Int := (if a0 = 13 then some 1 else (if a0 = 12 then some 2 else (if a0 = 11 then some 3 else some 0)))
theorem c_m_strength {l : Launch} {g : jG} (N : Nat) (a0 : Int) (M : jMem)  : ∀ o, m_strength N a0 M = some o → jCt l g jTM yX12_strength cX12_strength 1 (some .int) 0 1 [(0, a0)] M (o, M) := by
  refine jMet (own := RX12) (em := (fun r => (r, M))) (L := [(0, 0, a0)]) (by decide +kernel) rfl (Nat.le_of_ble_eq_true rfl) rfl (fun K hR => ?_)
  unfold m_strength
  refine z_iload_n (pc := 0) hR 0 dX12_strength_0 rfl rfl ?_
  refine z_bipush (pc := 1) hR dX12_strength_1 rfl ?_
  refine z_icmpne (pc := 3) (tgt := 10) hR dX12_strength_3 (by decide) ?_ ?_
  · refine z_iload_n (pc := 10) hR 0 dX12_strength_10 rfl rfl ?_
    refine z_bipush (pc := 11) hR dX12_strength_11 rfl ?_
    refine z_icmpne (pc := 13) (tgt := 20) hR dX12_strength_13 (by decide) ?_ ?_
    · refine z_iload_n (pc := 20) hR 0 dX12_strength_20 rfl rfl ?_
      refine z_bipush (pc := 21) hR dX12_strength_21 rfl ?_
      refine z_icmpne (pc := 23) (tgt := 30) hR dX12_strength_23 (by decide) ?_ ?_
      · refine z_iconst (pc := 30) hR dX12_strength_30 rfl ?_
        exact z_ireturn (pc := 31) hR rfl rfl dX12_strength_31 rfl
      · refine z_iconst (pc := 26) hR dX12_strength_26 rfl ?_
        refine z_goto (pc := 27) (tgt := 31) hR dX12_strength_27 (by decide) ?_
        exact z_ireturn (pc := 31) hR rfl rfl dX12_strength_31 rfl
    · refine z_iconst (pc := 16) hR dX12_strength_16 rfl ?_
      refine z_goto (pc := 17) (tgt := 31) hR dX12_strength_17 (by decide) ?_
      exact z_ireturn (pc := 31) hR rfl rfl dX12_strength_31 rfl
  · refine z_iconst (pc := 6) hR dX12_strength_6 rfl ?_
    refine z_goto (pc := 7) (tgt := 31) hR dX12_strength_7 (by decide) ?_
    exact z_ireturn (pc := 31) hR rfl rfl dX12_strength_31 rfl
theorem dX12_layDown_0 : decode cX12_layDown 0 = .ok (.aload_n 0, 1) := by decide +kernel
theorem dX12_layDown_1 : decode cX12_layDown 1 = .ok (.getfield 164, 3) := by decide +kernel
theorem dX12_layDown_4 : decode cX12_layDown 4 = .ok (.ifCond .le 72, 3) := by decide +kernel
theorem dX12_layDown_7 : decode cX12_layDown 7 = .ok (.aload_n 0, 1) := by decide +kernel
theorem dX12_layDown_8 : decode cX12_layDown 8 = .ok (.getfield 29, 3) := by decide +kernel
theorem dX12_layDown_11 : decode cX12_layDown 11 = .ok (.aload_n 0, 1) := by decide +kernel
theorem dX12_layDown_12 : decode cX12_layDown 12 = .ok (.getfield 164, 3) := by decide +kernel
theorem dX12_layDown_15 : decode cX12_layDown 15 = .ok (.iconst 1, 1) := by decide +kernel
theorem dX12_layDown_16 : decode cX12_layDown 16 = .ok (.isub, 1) := by decide +kernel
theorem dX12_layDown_17 : decode cX12_layDown 17 = .ok (.iaload, 1) := by decide +kernel
theorem dX12_layDown_18 : decode cX12_layDown 18 = .ok (.invokestatic 167, 3) := by decide +kernel
theorem dX12_layDown_21 : decode cX12_layDown 21 = .ok (.iload_n 1, 1) := by decide +kernel
theorem dX12_layDown_22 : decode cX12_layDown 22 = .ok (.if_icmp .lt 54, 3) := by decide +kernel
theorem dX12_layDown_25 : decode cX12_layDown 25 = .ok (.aload_n 0, 1) := by decide +kernel
theorem dX12_layDown_26 : decode cX12_layDown 26 = .ok (.dup, 1) := by decide +kernel
theorem dX12_layDown_27 : decode cX12_layDown 27 = .ok (.getfield 164, 3) := by decide +kernel
theorem dX12_layDown_30 : decode cX12_layDown 30 = .ok (.iconst 1, 1) := by decide +kernel
theorem dX12_layDown_31 : decode cX12_layDown 31 = .ok (.isub, 1) := by decide +kernel
theorem dX12_layDown_32 : decode cX12_layDown 32 = .ok (.putfield 164, 3) := by decide +kernel
theorem dX12_layDown_35 : decode cX12_layDown 35 = .ok (.aload_n 0, 1) := by decide +kernel
theorem dX12_layDown_36 : decode cX12_layDown 36 = .ok (.aload_n 0, 1) := by decide +kernel
theorem dX12_layDown_37 : decode cX12_layDown 37 = .ok (.getfield 29, 3) := by decide +kernel
theorem dX12_layDown_40 : decode cX12_layDown 40 = .ok (.aload_n 0, 1) := by decide +kernel
theorem dX12_layDown_41 : decode cX12_layDown 41 = .ok (.getfield 164, 3) := by decide +kernel
theorem dX12_layDown_44 : decode cX12_layDown 44 = .ok (.iaload, 1) := by decide +kernel
theorem dX12_layDown_45 : decode cX12_layDown 45 = .ok (.iconst 0, 1) := by decide +kernel
theorem dX12_layDown_46 : decode cX12_layDown 46 = .ok (.invokevirtual 171, 3) := by decide +kernel
theorem dX12_layDown_49 : decode cX12_layDown 49 = .ok (.aload_n 0, 1) := by decide +kernel
theorem dX12_layDown_50 : decode cX12_layDown 50 = .ok (.getfield 29, 3) := by decide +kernel
theorem dX12_layDown_53 : decode cX12_layDown 53 = .ok (.aload_n 0, 1) := by decide +kernel
theorem dX12_layDown_54 : decode cX12_layDown 54 = .ok (.getfield 164, 3) := by decide +kernel
theorem dX12_layDown_57 : decode cX12_layDown 57 = .ok (.iaload, 1) := by decide +kernel
theorem dX12_layDown_58 : decode cX12_layDown 58 = .ok (.bipush 11, 2) := by decide +kernel
theorem dX12_layDown_60 : decode cX12_layDown 60 = .ok (.if_icmp .ne (-60), 3) := by decide +kernel
theorem dX12_layDown_63 : decode cX12_layDown 63 = .ok (.aload_n 0, 1) := by decide +kernel
theorem dX12_layDown_64 : decode cX12_layDown 64 = .ok (.dup, 1) := by decide +kernel
theorem dX12_layDown_65 : decode cX12_layDown 65 = .ok (.getfield 161, 3) := by decide +kernel
theorem dX12_layDown_68 : decode cX12_layDown 68 = .ok (.iconst 1, 1) := by decide +kernel
theorem dX12_layDown_69 : decode cX12_layDown 69 = .ok (.isub, 1) := by decide +kernel
theorem dX12_layDown_70 : decode cX12_layDown 70 = .ok (.putfield 161, 3) := by decide +kernel
theorem dX12_layDown_73 : decode cX12_layDown 73 = .ok (.goto (-73), 3) := by decide +kernel
theorem dX12_layDown_76 : decode cX12_layDown 76 = .ok (.return_, 1) := by decide +kernel
def m_layDown_L0 (N : Nat) (a1 : Int) (h0 : jMem → Option (Int × jMem)) : jMem → Option (Int × jMem)
  | M1 => (if 0 < (M1 0 16) then jchk (0 ≤ (w32 (((M1 0 16)) - 1)) ∧ (w32 (((M1 0 16)) - 1)) < 400) <| (m_strength N ((M1 7 ((w32 (((M1 0 16)) - 1))))) M1).bind fun r3 => (if r3 < a1 then some (0, M1) else jlt (up M1 0 16 ((w32 (((M1 0 16)) - 1)))) fun M4 => jchk (0 ≤ (M4 0 16) ∧ (M4 0 16) < 400) <| jbv (m_puts N ((M4 7 ((M4 0 16)))) 0 M4) fun M6 => jchk (0 ≤ (M6 0 16) ∧ (M6 0 16) < 400) <| (if (M6 7 ((M6 0 16))) = 11 then jlt (up M6 0 13 ((w32 (((M6 0 13)) - 1)))) fun M8 => h0 M8 else h0 M6)) else some (0, M1))
def m_layDown (N : Nat) (a1 : Int) (M : jMem) : Option (Int × jMem) := jfix N (m_layDown_L0 N a1) M
theorem c_m_layDown {l : Launch} {g : jG} (N : Nat) (a1 : Int) (M : jMem)  : ∀ o, m_layDown N a1 M = some o → jCt l g jTM yX12_layDown cX12_layDown 2 none 3 3 [(2, 0), (0, a1)] M o := by
  refine jMet (own := RX12) (em := id) (L := [(0, 2, 0), (1, 0, a1)]) (by decide +kernel) rfl (Nat.le_of_ble_eq_true rfl) rfl (fun K hR => ?_)
  unfold m_layDown
  refine z_fix (σ := jMem) (lv := fun s => [(0, 2, 0), (1, 0, a1)]) (st := fun _ => []) (M := fun s => s) (fun h0 hh0 => ?_) N M
  intro M1
  show jZ K id 0 [(0, 2, 0), (1, 0, a1)] [] M1 _
  unfold m_layDown_L0
  refine z_aload_n (pc := 0) hR 0 dX12_layDown_0 rfl rfl ?_
  refine z_geti (pc := 1) hR (j := 16) jf_RX12_164 kmo_0 (by decide) rfl rfl dX12_layDown_1 ?_
  refine z_ifle (pc := 4) (tgt := 76) hR dX12_layDown_4 (by decide) ?_ ?_
  · exact z_return (x := 0) (pc := 76) hR rfl rfl dX12_layDown_76 rfl
  · refine z_aload_n (pc := 7) hR 0 dX12_layDown_7 rfl rfl ?_
    refine z_getr (pc := 8) hR (c0 := 7) (r := 7) jf_RX12_29 kmo_0 (by decide) rfl rfl dX12_layDown_8 ?_
    refine z_aload_n (pc := 11) hR 0 dX12_layDown_11 rfl rfl ?_
    refine z_geti (pc := 12) hR (j := 16) jf_RX12_164 kmo_0 (by decide) rfl rfl dX12_layDown_12 ?_
    refine z_iconst (pc := 15) hR dX12_layDown_15 rfl ?_
    refine z_isub (pc := 16) hR dX12_layDown_16 ?_
    refine z_chk (fun hc2 => ?_)
    refine z_iald (pc := 17) hR (n := 400) kma_7 hc2.1 hc2.2 dX12_layDown_17 ?_
    refine z_callsp (pc := 18) hR (As := [(0, (M1 7 ((w32 (((M1 0 16)) - 1)))))]) (st := []) jm_X12_strength jl_RX12_167 (by decide) (c_m_strength N ((M1 7 ((w32 (((M1 0 16)) - 1))))) M1) rfl (by decide) (by decide) rfl (Nat.le_of_ble_eq_true rfl) dX12_layDown_18 (fun r3 => ?_)
    refine z_iload_n (pc := 21) hR 1 dX12_layDown_21 rfl rfl ?_
    refine z_icmplt (pc := 22) (tgt := 76) hR dX12_layDown_22 (by decide) ?_ ?_
    · exact z_return (x := 0) (pc := 76) hR rfl rfl dX12_layDown_76 rfl
    · refine z_aload_n (pc := 25) hR 0 dX12_layDown_25 rfl rfl ?_
      refine z_dup (pc := 26) hR dX12_layDown_26 (by decide) ?_
      refine z_geti (pc := 27) hR (j := 16) jf_RX12_164 kmo_0 (by decide) rfl rfl dX12_layDown_27 ?_
      refine z_iconst (pc := 30) hR dX12_layDown_30 rfl ?_
      refine z_isub (pc := 31) hR dX12_layDown_31 ?_
      refine z_puti (pc := 32) hR (j := 16) jp_RX12_164 kmo_0 (by decide) rfl rfl rfl rfl dX12_layDown_32 (fun M4 => ?_)
      refine z_aload_n (pc := 35) hR 0 dX12_layDown_35 rfl rfl ?_
      refine z_aload_n (pc := 36) hR 0 dX12_layDown_36 rfl rfl ?_
      refine z_getr (pc := 37) hR (c0 := 7) (r := 7) jf_RX12_29 kmo_0 (by decide) rfl rfl dX12_layDown_37 ?_
      refine z_aload_n (pc := 40) hR 0 dX12_layDown_40 rfl rfl ?_
      refine z_geti (pc := 41) hR (j := 16) jf_RX12_164 kmo_0 (by decide) rfl rfl dX12_layDown_41 ?_
      refine z_chk (fun hc5 => ?_)
      refine z_iald (pc := 44) hR (n := 400) kma_7 hc5.1 hc5.2 dX12_layDown_44 ?_
      refine z_iconst (pc := 45) hR dX12_layDown_45 rfl ?_
      refine z_callv0 (pc := 46) (rk' := 3) hR (As := [(0, (M4 7 ((M4 0 16)))), (0, 0)]) (st := []) jm_X12_puts jl_RX12_171 kmo_0 (by decide) rfl (c_m_puts N ((M4 7 ((M4 0 16)))) 0 M4) rfl (by decide) (by decide) rfl (Nat.le_of_ble_eq_true rfl) dX12_layDown_46 (fun M6 => ?_)
      refine z_aload_n (pc := 49) hR 0 dX12_layDown_49 rfl rfl ?_
      refine z_getr (pc := 50) hR (c0 := 7) (r := 7) jf_RX12_29 kmo_0 (by decide) rfl rfl dX12_layDown_50 ?_
      refine z_aload_n (pc := 53) hR 0 dX12_layDown_53 rfl rfl ?_
      refine z_geti (pc := 54) hR (j := 16) jf_RX12_164 kmo_0 (by decide) rfl rfl dX12_layDown_54 ?_
      refine z_chk (fun hc7 => ?_)
      refine z_iald (pc := 57) hR (n := 400) kma_7 hc7.1 hc7.2 dX12_layDown_57 ?_
      refine z_bipush (pc := 58) hR dX12_layDown_58 rfl ?_
      refine z_icmpne (pc := 60) (tgt := 0) hR dX12_layDown_60 (by decide) ?_ ?_
      · exact hh0 M6
      · refine z_aload_n (pc := 63) hR 0 dX12_layDown_63 rfl rfl ?_
        refine z_dup (pc := 64) hR dX12_layDown_64 (by decide) ?_
        refine z_geti (pc := 65) hR (j := 13) jf_RX12_161 kmo_0 (by decide) rfl rfl dX12_layDown_65 ?_
        refine z_iconst (pc := 68) hR dX12_layDown_68 rfl ?_
        refine z_isub (pc := 69) hR dX12_layDown_69 ?_
        refine z_puti (pc := 70) hR (j := 13) jp_RX12_161 kmo_0 (by decide) rfl rfl rfl rfl dX12_layDown_70 (fun M8 => ?_)
        refine z_goto (pc := 73) (tgt := 0) hR dX12_layDown_73 (by decide) ?_
        exact hh0 M8
theorem dX12_value_0 : decode cX12_value 0 = .ok (.aload_n 0, 1) := by decide +kernel
theorem dX12_value_1 : decode cX12_value 1 = .ok (.invokevirtual 102, 3) := by decide +kernel
theorem dX12_value_4 : decode cX12_value 4 = .ok (.pop, 1) := by decide +kernel
theorem dX12_value_5 : decode cX12_value 5 = .ok (.aload_n 0, 1) := by decide +kernel
theorem dX12_value_6 : decode cX12_value 6 = .ok (.getfield 99, 3) := by decide +kernel
theorem dX12_value_9 : decode cX12_value 9 = .ok (.istore_n 1, 1) := by decide +kernel
theorem dX12_value_10 : decode cX12_value 10 = .ok (.aload_n 0, 1) := by decide +kernel
theorem dX12_value_11 : decode cX12_value 11 = .ok (.aload_n 0, 1) := by decide +kernel
theorem dX12_value_12 : decode cX12_value 12 = .ok (.getfield 99, 3) := by decide +kernel
theorem dX12_value_15 : decode cX12_value 15 = .ok (.invokevirtual 117, 3) := by decide +kernel
theorem dX12_value_18 : decode cX12_value 18 = .ok (.ifCond .eq 34, 3) := by decide +kernel
theorem dX12_value_21 : decode cX12_value 21 = .ok (.aload_n 0, 1) := by decide +kernel
theorem dX12_value_22 : decode cX12_value 22 = .ok (.iconst 0, 1) := by decide +kernel
theorem dX12_value_23 : decode cX12_value 23 = .ok (.ldc 175, 2) := by decide +kernel
theorem dX12_value_25 : decode cX12_value 25 = .ok (.invokevirtual 176, 3) := by decide +kernel
theorem dX12_value_28 : decode cX12_value 28 = .ok (.ifCond .eq 11, 3) := by decide +kernel
theorem dX12_value_31 : decode cX12_value 31 = .ok (.aload_n 0, 1) := by decide +kernel
theorem dX12_value_32 : decode cX12_value 32 = .ok (.iload_n 1, 1) := by decide +kernel
theorem dX12_value_33 : decode cX12_value 33 = .ok (.invokevirtual 179, 3) := by decide +kernel
theorem dX12_value_36 : decode cX12_value 36 = .ok (.ifCond .ne 5, 3) := by decide +kernel
theorem dX12_value_39 : decode cX12_value 39 = .ok (.iconst 0, 1) := by decide +kernel
theorem dX12_value_40 : decode cX12_value 40 = .ok (.ireturn, 1) := by decide +kernel
theorem dX12_value_41 : decode cX12_value 41 = .ok (.aload_n 0, 1) := by decide +kernel
theorem dX12_value_42 : decode cX12_value 42 = .ok (.iconst 0, 1) := by decide +kernel
theorem dX12_value_43 : decode cX12_value 43 = .ok (.aload_n 0, 1) := by decide +kernel
theorem dX12_value_44 : decode cX12_value 44 = .ok (.getfield 124, 3) := by decide +kernel
theorem dX12_value_47 : decode cX12_value 47 = .ok (.invokevirtual 171, 3) := by decide +kernel
theorem dX12_value_50 : decode cX12_value 50 = .ok (.iconst 1, 1) := by decide +kernel
theorem dX12_value_51 : decode cX12_value 51 = .ok (.ireturn, 1) := by decide +kernel
theorem dX12_value_52 : decode cX12_value 52 = .ok (.aload_n 0, 1) := by decide +kernel
theorem dX12_value_53 : decode cX12_value 53 = .ok (.invokevirtual 182, 3) := by decide +kernel
theorem dX12_value_56 : decode cX12_value 56 = .ok (.istore_n 2, 1) := by decide +kernel
theorem dX12_value_57 : decode cX12_value 57 = .ok (.iload_n 2, 1) := by decide +kernel
theorem dX12_value_58 : decode cX12_value 58 = .ok (.ifCond .ge 10, 3) := by decide +kernel
theorem dX12_value_61 : decode cX12_value 61 = .ok (.aload_n 0, 1) := by decide +kernel
theorem dX12_value_62 : decode cX12_value 62 = .ok (.iconst 0, 1) := by decide +kernel
theorem dX12_value_63 : decode cX12_value 63 = .ok (.iload_n 1, 1) := by decide +kernel
theorem dX12_value_64 : decode cX12_value 64 = .ok (.invokevirtual 120, 3) := by decide +kernel
theorem dX12_value_67 : decode cX12_value 67 = .ok (.ireturn, 1) := by decide +kernel
theorem dX12_value_68 : decode cX12_value 68 = .ok (.aload_n 0, 1) := by decide +kernel
theorem dX12_value_69 : decode cX12_value 69 = .ok (.iload_n 1, 1) := by decide +kernel
theorem dX12_value_70 : decode cX12_value 70 = .ok (.invokevirtual 179, 3) := by decide +kernel
theorem dX12_value_73 : decode cX12_value 73 = .ok (.ifCond .ne 5, 3) := by decide +kernel
theorem dX12_value_76 : decode cX12_value 76 = .ok (.iconst 0, 1) := by decide +kernel
theorem dX12_value_77 : decode cX12_value 77 = .ok (.ireturn, 1) := by decide +kernel
theorem dX12_value_78 : decode cX12_value 78 = .ok (.aload_n 0, 1) := by decide +kernel
theorem dX12_value_79 : decode cX12_value 79 = .ok (.invokevirtual 114, 3) := by decide +kernel
theorem dX12_value_82 : decode cX12_value 82 = .ok (.aload_n 0, 1) := by decide +kernel
theorem dX12_value_83 : decode cX12_value 83 = .ok (.iconst 1, 1) := by decide +kernel
theorem dX12_value_84 : decode cX12_value 84 = .ok (.iload_n 2, 1) := by decide +kernel
theorem dX12_value_85 : decode cX12_value 85 = .ok (.invokevirtual 171, 3) := by decide +kernel
theorem dX12_value_88 : decode cX12_value 88 = .ok (.iconst 1, 1) := by decide +kernel
theorem dX12_value_89 : decode cX12_value 89 = .ok (.ireturn, 1) := by decide +kernel
def m_value (N : Nat) (M : jMem) : Option (Int × jMem) := jb1 (m_see N M) fun r1 M2 => jlt ((M2 0 8)) fun v3 => (m_isDigit N ((M2 0 8)) M2).bind fun r4 => (if r4 = 0 then jb1 (m_wordHere N M2) fun r5 M6 => (if r5 < 0 then jb1 (m_fails N 0 v3 M6) fun r11 M12 => jchk (r11 = 0 ∨ r11 = 1) <| some (r11, M12) else jb1 (m_makes N v3 M6) fun r7 M8 => (if r7 = 0 then some (0, M8) else jbv (m_passWord N M8) fun M9 => jbv (m_puts N 1 r5 M9) fun M10 => some (1, M10))) else jb1 (m_numberHere N 0 99999 M2) fun r14 M15 => (if r14 = 0 then some (0, M15) else jb1 (m_makes N v3 M15) fun r16 M17 => (if r16 = 0 then some (0, M17) else jbv (m_puts N 0 ((M17 0 10)) M17) fun M18 => some (1, M18))))
theorem c_m_value {l : Launch} {g : jG} (N : Nat) (M : jMem)  : ∀ o, m_value N  M = some o → jCt l g jTM yX12_value cX12_value 3 (some .boolean) 0 7 [(2, 0)] M o := by
  refine jMet (own := RX12) (em := id) (L := [(0, 2, 0)]) (by decide +kernel) rfl (Nat.le_of_ble_eq_true rfl) rfl (fun K hR => ?_)
  unfold m_value
  refine z_aload_n (pc := 0) hR 0 dX12_value_0 rfl rfl ?_
  refine z_callv1 (pc := 1) hR (As := []) (st := []) jm_X12_see jl_RX12_102 kmo_0 (by decide) rfl (by decide) (c_m_see N M) rfl (by decide) (by decide) rfl (Nat.le_of_ble_eq_true rfl) dX12_value_1 (fun r1 M2 => ?_)
  refine z_pop (pc := 4) hR dX12_value_4 (by decide) ?_
  refine z_aload_n (pc := 5) hR 0 dX12_value_5 rfl rfl ?_
  refine z_geti (pc := 6) hR (j := 8) jf_RX12_99 kmo_0 (by decide) rfl rfl dX12_value_6 ?_
  refine z_let1 (fun v3 => ?_)
  refine z_istore_n (pc := 9) hR (lv' := [(1, 0, v3), (0, 2, 0)]) dX12_value_9 rfl (by decide) rfl ?_
  refine z_aload_n (pc := 10) hR 1 dX12_value_10 rfl rfl ?_
  refine z_aload_n (pc := 11) hR 1 dX12_value_11 rfl rfl ?_
  refine z_geti (pc := 12) hR (j := 8) jf_RX12_99 kmo_0 (by decide) rfl rfl dX12_value_12 ?_
  refine z_callvp (pc := 15) hR (As := [(0, (M2 0 8))]) (st := []) jm_X12_isDigit jl_RX12_117 kmo_0 (by decide) rfl (by decide) (c_m_isDigit N ((M2 0 8)) M2) rfl (by decide) (by decide) rfl (Nat.le_of_ble_eq_true rfl) dX12_value_15 (fun r4 => ?_)
  refine z_ifeq (pc := 18) (tgt := 52) hR dX12_value_18 (by decide) ?_ ?_
  · refine z_aload_n (pc := 52) hR 1 dX12_value_52 rfl rfl ?_
    refine z_callv1 (pc := 53) hR (As := []) (st := []) jm_X12_wordHere jl_RX12_182 kmo_0 (by decide) rfl (by decide) (c_m_wordHere N M2) rfl (by decide) (by decide) rfl (Nat.le_of_ble_eq_true rfl) dX12_value_53 (fun r5 M6 => ?_)
    refine z_istore_n (pc := 56) hR (lv' := [(2, 0, r5), (1, 0, v3), (0, 2, 0)]) dX12_value_56 rfl (by decide) rfl ?_
    refine z_iload_n (pc := 57) hR 0 dX12_value_57 rfl rfl ?_
    refine z_ifge (pc := 58) (tgt := 68) hR dX12_value_58 (by decide) ?_ ?_
    · refine z_aload_n (pc := 68) hR 2 dX12_value_68 rfl rfl ?_
      refine z_iload_n (pc := 69) hR 1 dX12_value_69 rfl rfl ?_
      refine z_callv1 (pc := 70) hR (As := [(0, v3)]) (st := []) jm_X12_makes jl_RX12_179 kmo_0 (by decide) rfl (by decide) (c_m_makes N v3 M6) rfl (by decide) (by decide) rfl (Nat.le_of_ble_eq_true rfl) dX12_value_70 (fun r7 M8 => ?_)
      refine z_ifne (pc := 73) (tgt := 78) hR dX12_value_73 (by decide) ?_ ?_
      · refine z_aload_n (pc := 78) hR 2 dX12_value_78 rfl rfl ?_
        refine z_callv0 (pc := 79) (rk' := 3) hR (As := []) (st := []) jm_X12_passWord jl_RX12_114 kmo_0 (by decide) rfl (c_m_passWord N M8) rfl (by decide) (by decide) rfl (Nat.le_of_ble_eq_true rfl) dX12_value_79 (fun M9 => ?_)
        refine z_aload_n (pc := 82) hR 2 dX12_value_82 rfl rfl ?_
        refine z_iconst (pc := 83) hR dX12_value_83 rfl ?_
        refine z_iload_n (pc := 84) hR 0 dX12_value_84 rfl rfl ?_
        refine z_callv0 (pc := 85) (rk' := 3) hR (As := [(0, 1), (0, r5)]) (st := []) jm_X12_puts jl_RX12_171 kmo_0 (by decide) rfl (c_m_puts N 1 r5 M9) rfl (by decide) (by decide) rfl (Nat.le_of_ble_eq_true rfl) dX12_value_85 (fun M10 => ?_)
        refine z_iconst (pc := 88) hR dX12_value_88 rfl ?_
        exact z_zreturn (pc := 89) hR rfl rfl (Or.inr rfl) dX12_value_89 rfl
      · refine z_iconst (pc := 76) hR dX12_value_76 rfl ?_
        exact z_zreturn (pc := 77) hR rfl rfl (Or.inl rfl) dX12_value_77 rfl
    · refine z_aload_n (pc := 61) hR 2 dX12_value_61 rfl rfl ?_
      refine z_iconst (pc := 62) hR dX12_value_62 rfl ?_
      refine z_iload_n (pc := 63) hR 1 dX12_value_63 rfl rfl ?_
      refine z_callv1 (pc := 64) hR (As := [(0, 0), (0, v3)]) (st := []) jm_X12_fails jl_RX12_120 kmo_0 (by decide) rfl (by decide) (c_m_fails N 0 v3 M6) rfl (by decide) (by decide) rfl (Nat.le_of_ble_eq_true rfl) dX12_value_64 (fun r11 M12 => ?_)
      refine z_chk (fun hc13 => ?_)
      exact z_zreturn (pc := 67) hR rfl rfl hc13 dX12_value_67 rfl
  · refine z_aload_n (pc := 21) hR 1 dX12_value_21 rfl rfl ?_
    refine z_iconst (pc := 22) hR dX12_value_22 rfl ?_
    refine z_ldc (pc := 23) hR (n := 99999) jc_RX12_175 (by decide) rfl dX12_value_23 ?_
    refine z_callv1 (pc := 25) hR (As := [(0, 0), (0, 99999)]) (st := []) jm_X12_numberHere jl_RX12_176 kmo_0 (by decide) rfl (by decide) (c_m_numberHere N 0 99999 M2) rfl (by decide) (by decide) rfl (Nat.le_of_ble_eq_true rfl) dX12_value_25 (fun r14 M15 => ?_)
    refine z_ifeq (pc := 28) (tgt := 39) hR dX12_value_28 (by decide) ?_ ?_
    · refine z_iconst (pc := 39) hR dX12_value_39 rfl ?_
      exact z_zreturn (pc := 40) hR rfl rfl (Or.inl rfl) dX12_value_40 rfl
    · refine z_aload_n (pc := 31) hR 1 dX12_value_31 rfl rfl ?_
      refine z_iload_n (pc := 32) hR 0 dX12_value_32 rfl rfl ?_
      refine z_callv1 (pc := 33) hR (As := [(0, v3)]) (st := []) jm_X12_makes jl_RX12_179 kmo_0 (by decide) rfl (by decide) (c_m_makes N v3 M15) rfl (by decide) (by decide) rfl (Nat.le_of_ble_eq_true rfl) dX12_value_33 (fun r16 M17 => ?_)
      refine z_ifne (pc := 36) (tgt := 41) hR dX12_value_36 (by decide) ?_ ?_
      · refine z_aload_n (pc := 41) hR 1 dX12_value_41 rfl rfl ?_
        refine z_iconst (pc := 42) hR dX12_value_42 rfl ?_
        refine z_aload_n (pc := 43) hR 1 dX12_value_43 rfl rfl ?_
        refine z_geti (pc := 44) hR (j := 10) jf_RX12_124 kmo_0 (by decide) rfl rfl dX12_value_44 ?_
        refine z_callv0 (pc := 47) (rk' := 3) hR (As := [(0, 0), (0, (M17 0 10))]) (st := []) jm_X12_puts jl_RX12_171 kmo_0 (by decide) rfl (c_m_puts N 0 ((M17 0 10)) M17) rfl (by decide) (by decide) rfl (Nat.le_of_ble_eq_true rfl) dX12_value_47 (fun M18 => ?_)
        refine z_iconst (pc := 50) hR dX12_value_50 rfl ?_
        exact z_zreturn (pc := 51) hR rfl rfl (Or.inr rfl) dX12_value_51 rfl
      · refine z_iconst (pc := 39) hR dX12_value_39 rfl ?_
        exact z_zreturn (pc := 40) hR rfl rfl (Or.inl rfl) dX12_value_40 rfl
theorem dX12_term_0 : decode cX12_term 0 = .ok (.aload_n 0, 1) := by decide +kernel
theorem dX12_term_1 : decode cX12_term 1 = .ok (.invokevirtual 185, 3) := by decide +kernel
theorem dX12_term_4 : decode cX12_term 4 = .ok (.ifCond .ne 5, 3) := by decide +kernel
theorem dX12_term_7 : decode cX12_term 7 = .ok (.iconst 0, 1) := by decide +kernel
theorem dX12_term_8 : decode cX12_term 8 = .ok (.ireturn, 1) := by decide +kernel
theorem dX12_term_9 : decode cX12_term 9 = .ok (.aload_n 0, 1) := by decide +kernel
theorem dX12_term_10 : decode cX12_term 10 = .ok (.invokevirtual 102, 3) := by decide +kernel
theorem dX12_term_13 : decode cX12_term 13 = .ok (.bipush 42, 2) := by decide +kernel
theorem dX12_term_15 : decode cX12_term 15 = .ok (.if_icmp .eq 21, 3) := by decide +kernel
theorem dX12_term_18 : decode cX12_term 18 = .ok (.aload_n 0, 1) := by decide +kernel
theorem dX12_term_19 : decode cX12_term 19 = .ok (.invokevirtual 102, 3) := by decide +kernel
theorem dX12_term_22 : decode cX12_term 22 = .ok (.bipush 47, 2) := by decide +kernel
theorem dX12_term_24 : decode cX12_term 24 = .ok (.if_icmp .eq 12, 3) := by decide +kernel
theorem dX12_term_27 : decode cX12_term 27 = .ok (.aload_n 0, 1) := by decide +kernel
theorem dX12_term_28 : decode cX12_term 28 = .ok (.invokevirtual 102, 3) := by decide +kernel
theorem dX12_term_31 : decode cX12_term 31 = .ok (.bipush 37, 2) := by decide +kernel
theorem dX12_term_33 : decode cX12_term 33 = .ok (.if_icmp .ne 70, 3) := by decide +kernel
theorem dX12_term_36 : decode cX12_term 36 = .ok (.aload_n 0, 1) := by decide +kernel
theorem dX12_term_37 : decode cX12_term 37 = .ok (.getfield 7, 3) := by decide +kernel
theorem dX12_term_40 : decode cX12_term 40 = .ok (.aload_n 0, 1) := by decide +kernel
theorem dX12_term_41 : decode cX12_term 41 = .ok (.getfield 99, 3) := by decide +kernel
theorem dX12_term_44 : decode cX12_term 44 = .ok (.baload, 1) := by decide +kernel
theorem dX12_term_45 : decode cX12_term 45 = .ok (.bipush 42, 2) := by decide +kernel
theorem dX12_term_47 : decode cX12_term 47 = .ok (.if_icmp .ne 7, 3) := by decide +kernel
theorem dX12_term_50 : decode cX12_term 50 = .ok (.iconst 4, 1) := by decide +kernel
theorem dX12_term_51 : decode cX12_term 51 = .ok (.goto 23, 3) := by decide +kernel
theorem dX12_term_54 : decode cX12_term 54 = .ok (.aload_n 0, 1) := by decide +kernel
theorem dX12_term_55 : decode cX12_term 55 = .ok (.getfield 7, 3) := by decide +kernel
theorem dX12_term_58 : decode cX12_term 58 = .ok (.aload_n 0, 1) := by decide +kernel
theorem dX12_term_59 : decode cX12_term 59 = .ok (.getfield 99, 3) := by decide +kernel
theorem dX12_term_62 : decode cX12_term 62 = .ok (.baload, 1) := by decide +kernel
theorem dX12_term_63 : decode cX12_term 63 = .ok (.bipush 47, 2) := by decide +kernel
theorem dX12_term_65 : decode cX12_term 65 = .ok (.if_icmp .ne 7, 3) := by decide +kernel
theorem dX12_term_68 : decode cX12_term 68 = .ok (.iconst 5, 1) := by decide +kernel
theorem dX12_term_69 : decode cX12_term 69 = .ok (.goto 5, 3) := by decide +kernel
theorem dX12_term_72 : decode cX12_term 72 = .ok (.bipush 14, 2) := by decide +kernel
theorem dX12_term_74 : decode cX12_term 74 = .ok (.istore_n 1, 1) := by decide +kernel
theorem dX12_term_75 : decode cX12_term 75 = .ok (.aload_n 0, 1) := by decide +kernel
theorem dX12_term_76 : decode cX12_term 76 = .ok (.dup, 1) := by decide +kernel
theorem dX12_term_77 : decode cX12_term 77 = .ok (.getfield 99, 3) := by decide +kernel
theorem dX12_term_80 : decode cX12_term 80 = .ok (.iconst 1, 1) := by decide +kernel
theorem dX12_term_81 : decode cX12_term 81 = .ok (.iadd, 1) := by decide +kernel
theorem dX12_term_82 : decode cX12_term 82 = .ok (.putfield 99, 3) := by decide +kernel
theorem dX12_term_85 : decode cX12_term 85 = .ok (.aload_n 0, 1) := by decide +kernel
theorem dX12_term_86 : decode cX12_term 86 = .ok (.invokevirtual 185, 3) := by decide +kernel
theorem dX12_term_89 : decode cX12_term 89 = .ok (.ifCond .ne 5, 3) := by decide +kernel
theorem dX12_term_92 : decode cX12_term 92 = .ok (.iconst 0, 1) := by decide +kernel
theorem dX12_term_93 : decode cX12_term 93 = .ok (.ireturn, 1) := by decide +kernel
theorem dX12_term_94 : decode cX12_term 94 = .ok (.aload_n 0, 1) := by decide +kernel
theorem dX12_term_95 : decode cX12_term 95 = .ok (.iload_n 1, 1) := by decide +kernel
theorem dX12_term_96 : decode cX12_term 96 = .ok (.iconst 0, 1) := by decide +kernel
theorem dX12_term_97 : decode cX12_term 97 = .ok (.invokevirtual 171, 3) := by decide +kernel
theorem dX12_term_100 : decode cX12_term 100 = .ok (.goto (-91), 3) := by decide +kernel
theorem dX12_term_103 : decode cX12_term 103 = .ok (.iconst 1, 1) := by decide +kernel
theorem dX12_term_104 : decode cX12_term 104 = .ok (.ireturn, 1) := by decide +kernel
def m_term_L9 (N : Nat)  (h9 : jMem → Option (Int × jMem)) : jMem → Option (Int × jMem)
  | M3 => jb1 (m_see N M3) fun r4 M5 => jlt (fun (M6 : jMem) => jchk (0 ≤ (M6 0 8) ∧ (M6 0 8) < 400) <| jlt (fun (u8 : Int) => jlt (up M6 0 8 ((w32 (((M6 0 8)) + 1)))) fun M9 => jb1 (m_value N M9) fun r10 M11 => (if r10 = 0 then some (0, M11) else jbv (m_puts N u8 0 M11) fun M12 => h9 M12)) fun j74 => (if (M6 1 ((M6 0 8))) = 42 then j74 4 else jchk (0 ≤ (M6 0 8) ∧ (M6 0 8) < 400) <| (if (M6 1 ((M6 0 8))) = 47 then j74 5 else j74 14))) fun j36 => (if r4 = 42 then j36 M5 else jb1 (m_see N M5) fun r14 M15 => (if r14 = 47 then j36 M15 else jb1 (m_see N M15) fun r16 M17 => (if r16 = 37 then j36 M17 else some (1, M17))))
def m_term (N : Nat) (M : jMem) : Option (Int × jMem) := jb1 (m_value N M) fun r1 M2 => (if r1 = 0 then some (0, M2) else jfix N (m_term_L9 N) M2)
theorem c_m_term {l : Launch} {g : jG} (N : Nat) (M : jMem)  : ∀ o, m_term N  M = some o → jCt l g jTM yX12_term cX12_term 2 (some .boolean) 0 9 [(2, 0)] M o := by
  refine jMet (own := RX12) (em := id) (L := [(0, 2, 0)]) (by decide +kernel) rfl (Nat.le_of_ble_eq_true rfl) rfl (fun K hR => ?_)
  unfold m_term
  refine z_aload_n (pc := 0) hR 0 dX12_term_0 rfl rfl ?_
  refine z_callv1 (pc := 1) hR (As := []) (st := []) jm_X12_value jl_RX12_185 kmo_0 (by decide) rfl (by decide) (c_m_value N M) rfl (by decide) (by decide) rfl (Nat.le_of_ble_eq_true rfl) dX12_term_1 (fun r1 M2 => ?_)
  refine z_ifne (pc := 4) (tgt := 9) hR dX12_term_4 (by decide) ?_ ?_
  · refine z_fix (σ := jMem) (lv := fun s => [(0, 2, 0)]) (st := fun _ => []) (M := fun s => s) (fun h9 hh9 => ?_) N M2
    intro M3
    show jZ K id 9 [(0, 2, 0)] [] M3 _
    unfold m_term_L9
    refine z_aload_n (pc := 9) hR 0 dX12_term_9 rfl rfl ?_
    refine z_callv1 (pc := 10) hR (As := []) (st := []) jm_X12_see jl_RX12_102 kmo_0 (by decide) rfl (by decide) (c_m_see N M3) rfl (by decide) (by decide) rfl (Nat.le_of_ble_eq_true rfl) dX12_term_10 (fun r4 M5 => ?_)
    refine z_bipush (pc := 13) hR dX12_term_13 rfl ?_
    refine z_join (P := fun j => ∀ (M6 : jMem), jZ K id 36 [(0, 2, 0)] [] M6 (j M6)) (fun M6 => ?_) (fun j36 hj36 => ?_)
    · refine z_aload_n (pc := 36) hR 0 dX12_term_36 rfl rfl ?_
      refine z_getr (pc := 37) hR (c0 := 1) (r := 1) jf_RX12_7 kmo_0 (by decide) rfl rfl dX12_term_37 ?_
      refine z_aload_n (pc := 40) hR 0 dX12_term_40 rfl rfl ?_
      refine z_geti (pc := 41) hR (j := 8) jf_RX12_99 kmo_0 (by decide) rfl rfl dX12_term_41 ?_
      refine z_chk (fun hc7 => ?_)
      refine z_bald (pc := 44) hR (n := 400) kma_1 hc7.1 hc7.2 dX12_term_44 ?_
      refine z_bipush (pc := 45) hR dX12_term_45 rfl ?_
      refine z_join (P := fun j => ∀ (u8 : Int), jZ K id 74 [(0, 2, 0)] [(0, u8)] M6 (j u8)) (fun u8 => ?_) (fun j74 hj74 => ?_)
      · refine z_istore_n (pc := 74) hR (lv' := [(1, 0, u8), (0, 2, 0)]) dX12_term_74 rfl (by decide) rfl ?_
        refine z_aload_n (pc := 75) hR 1 dX12_term_75 rfl rfl ?_
        refine z_dup (pc := 76) hR dX12_term_76 (by decide) ?_
        refine z_geti (pc := 77) hR (j := 8) jf_RX12_99 kmo_0 (by decide) rfl rfl dX12_term_77 ?_
        refine z_iconst (pc := 80) hR dX12_term_80 rfl ?_
        refine z_iadd (pc := 81) hR dX12_term_81 ?_
        refine z_puti (pc := 82) hR (j := 8) jp_RX12_99 kmo_0 (by decide) rfl rfl rfl rfl dX12_term_82 (fun M9 => ?_)
        refine z_aload_n (pc := 85) hR 1 dX12_term_85 rfl rfl ?_
        refine z_callv1 (pc := 86) hR (As := []) (st := []) jm_X12_value jl_RX12_185 kmo_0 (by decide) rfl (by decide) (c_m_value N M9) rfl (by decide) (by decide) rfl (Nat.le_of_ble_eq_true rfl) dX12_term_86 (fun r10 M11 => ?_)
        refine z_ifne (pc := 89) (tgt := 94) hR dX12_term_89 (by decide) ?_ ?_
        · refine z_aload_n (pc := 94) hR 1 dX12_term_94 rfl rfl ?_
          refine z_iload_n (pc := 95) hR 0 dX12_term_95 rfl rfl ?_
          refine z_iconst (pc := 96) hR dX12_term_96 rfl ?_
          refine z_callv0 (pc := 97) (rk' := 3) hR (As := [(0, u8), (0, 0)]) (st := []) jm_X12_puts jl_RX12_171 kmo_0 (by decide) rfl (c_m_puts N u8 0 M11) rfl (by decide) (by decide) rfl (Nat.le_of_ble_eq_true rfl) dX12_term_97 (fun M12 => ?_)
          refine z_goto (pc := 100) (tgt := 9) hR dX12_term_100 (by decide) ?_
          refine z_pick (pc := 9) (lv' := [(0, 2, 0)]) hR [1] rfl ?_
          exact hh9 M12
        · refine z_iconst (pc := 92) hR dX12_term_92 rfl ?_
          exact z_zreturn (pc := 93) hR rfl rfl (Or.inl rfl) dX12_term_93 rfl
      refine z_icmpne (pc := 47) (tgt := 54) hR dX12_term_47 (by decide) ?_ ?_
      · refine z_aload_n (pc := 54) hR 0 dX12_term_54 rfl rfl ?_
        refine z_getr (pc := 55) hR (c0 := 1) (r := 1) jf_RX12_7 kmo_0 (by decide) rfl rfl dX12_term_55 ?_
        refine z_aload_n (pc := 58) hR 0 dX12_term_58 rfl rfl ?_
        refine z_geti (pc := 59) hR (j := 8) jf_RX12_99 kmo_0 (by decide) rfl rfl dX12_term_59 ?_
        refine z_chk (fun hc13 => ?_)
        refine z_bald (pc := 62) hR (n := 400) kma_1 hc13.1 hc13.2 dX12_term_62 ?_
        refine z_bipush (pc := 63) hR dX12_term_63 rfl ?_
        refine z_icmpne (pc := 65) (tgt := 72) hR dX12_term_65 (by decide) ?_ ?_
        · refine z_bipush (pc := 72) hR dX12_term_72 rfl ?_
          exact hj74 14
        · refine z_iconst (pc := 68) hR dX12_term_68 rfl ?_
          refine z_goto (pc := 69) (tgt := 74) hR dX12_term_69 (by decide) ?_
          exact hj74 5
      · refine z_iconst (pc := 50) hR dX12_term_50 rfl ?_
        refine z_goto (pc := 51) (tgt := 74) hR dX12_term_51 (by decide) ?_
        exact hj74 4
    refine z_icmpeq (pc := 15) (tgt := 36) hR dX12_term_15 (by decide) ?_ ?_
    · exact hj36 M5
    · refine z_aload_n (pc := 18) hR 0 dX12_term_18 rfl rfl ?_
      refine z_callv1 (pc := 19) hR (As := []) (st := []) jm_X12_see jl_RX12_102 kmo_0 (by decide) rfl (by decide) (c_m_see N M5) rfl (by decide) (by decide) rfl (Nat.le_of_ble_eq_true rfl) dX12_term_19 (fun r14 M15 => ?_)
      refine z_bipush (pc := 22) hR dX12_term_22 rfl ?_
      refine z_icmpeq (pc := 24) (tgt := 36) hR dX12_term_24 (by decide) ?_ ?_
      · exact hj36 M15
      · refine z_aload_n (pc := 27) hR 0 dX12_term_27 rfl rfl ?_
        refine z_callv1 (pc := 28) hR (As := []) (st := []) jm_X12_see jl_RX12_102 kmo_0 (by decide) rfl (by decide) (c_m_see N M15) rfl (by decide) (by decide) rfl (Nat.le_of_ble_eq_true rfl) dX12_term_28 (fun r16 M17 => ?_)
        refine z_bipush (pc := 31) hR dX12_term_31 rfl ?_
        refine z_icmpne (pc := 33) (tgt := 103) hR dX12_term_33 (by decide) ?_ ?_
        · refine z_iconst (pc := 103) hR dX12_term_103 rfl ?_
          exact z_zreturn (pc := 104) hR rfl rfl (Or.inr rfl) dX12_term_104 rfl
        · exact hj36 M17
  · refine z_iconst (pc := 7) hR dX12_term_7 rfl ?_
    exact z_zreturn (pc := 8) hR rfl rfl (Or.inl rfl) dX12_term_8 rfl
theorem dX12_sum_0 : decode cX12_sum 0 = .ok (.aload_n 0, 1) := by decide +kernel
theorem dX12_sum_1 : decode cX12_sum 1 = .ok (.invokevirtual 189, 3) := by decide +kernel
theorem dX12_sum_4 : decode cX12_sum 4 = .ok (.ifCond .ne 5, 3) := by decide +kernel
theorem dX12_sum_7 : decode cX12_sum 7 = .ok (.iconst 0, 1) := by decide +kernel
theorem dX12_sum_8 : decode cX12_sum 8 = .ok (.ireturn, 1) := by decide +kernel
theorem dX12_sum_9 : decode cX12_sum 9 = .ok (.aload_n 0, 1) := by decide +kernel
theorem dX12_sum_10 : decode cX12_sum 10 = .ok (.invokevirtual 102, 3) := by decide +kernel
theorem dX12_sum_13 : decode cX12_sum 13 = .ok (.bipush 43, 2) := by decide +kernel
theorem dX12_sum_15 : decode cX12_sum 15 = .ok (.if_icmp .eq 12, 3) := by decide +kernel
theorem dX12_sum_18 : decode cX12_sum 18 = .ok (.aload_n 0, 1) := by decide +kernel
theorem dX12_sum_19 : decode cX12_sum 19 = .ok (.invokevirtual 102, 3) := by decide +kernel
theorem dX12_sum_22 : decode cX12_sum 22 = .ok (.bipush 45, 2) := by decide +kernel
theorem dX12_sum_24 : decode cX12_sum 24 = .ok (.if_icmp .ne 51, 3) := by decide +kernel
theorem dX12_sum_27 : decode cX12_sum 27 = .ok (.aload_n 0, 1) := by decide +kernel
theorem dX12_sum_28 : decode cX12_sum 28 = .ok (.getfield 7, 3) := by decide +kernel
theorem dX12_sum_31 : decode cX12_sum 31 = .ok (.aload_n 0, 1) := by decide +kernel
theorem dX12_sum_32 : decode cX12_sum 32 = .ok (.getfield 99, 3) := by decide +kernel
theorem dX12_sum_35 : decode cX12_sum 35 = .ok (.baload, 1) := by decide +kernel
theorem dX12_sum_36 : decode cX12_sum 36 = .ok (.bipush 43, 2) := by decide +kernel
theorem dX12_sum_38 : decode cX12_sum 38 = .ok (.if_icmp .ne 7, 3) := by decide +kernel
theorem dX12_sum_41 : decode cX12_sum 41 = .ok (.iconst 2, 1) := by decide +kernel
theorem dX12_sum_42 : decode cX12_sum 42 = .ok (.goto 4, 3) := by decide +kernel
theorem dX12_sum_45 : decode cX12_sum 45 = .ok (.iconst 3, 1) := by decide +kernel
theorem dX12_sum_46 : decode cX12_sum 46 = .ok (.istore_n 1, 1) := by decide +kernel
theorem dX12_sum_47 : decode cX12_sum 47 = .ok (.aload_n 0, 1) := by decide +kernel
theorem dX12_sum_48 : decode cX12_sum 48 = .ok (.dup, 1) := by decide +kernel
theorem dX12_sum_49 : decode cX12_sum 49 = .ok (.getfield 99, 3) := by decide +kernel
theorem dX12_sum_52 : decode cX12_sum 52 = .ok (.iconst 1, 1) := by decide +kernel
theorem dX12_sum_53 : decode cX12_sum 53 = .ok (.iadd, 1) := by decide +kernel
theorem dX12_sum_54 : decode cX12_sum 54 = .ok (.putfield 99, 3) := by decide +kernel
theorem dX12_sum_57 : decode cX12_sum 57 = .ok (.aload_n 0, 1) := by decide +kernel
theorem dX12_sum_58 : decode cX12_sum 58 = .ok (.invokevirtual 189, 3) := by decide +kernel
theorem dX12_sum_61 : decode cX12_sum 61 = .ok (.ifCond .ne 5, 3) := by decide +kernel
theorem dX12_sum_64 : decode cX12_sum 64 = .ok (.iconst 0, 1) := by decide +kernel
theorem dX12_sum_65 : decode cX12_sum 65 = .ok (.ireturn, 1) := by decide +kernel
theorem dX12_sum_66 : decode cX12_sum 66 = .ok (.aload_n 0, 1) := by decide +kernel
theorem dX12_sum_67 : decode cX12_sum 67 = .ok (.iload_n 1, 1) := by decide +kernel
theorem dX12_sum_68 : decode cX12_sum 68 = .ok (.iconst 0, 1) := by decide +kernel
theorem dX12_sum_69 : decode cX12_sum 69 = .ok (.invokevirtual 171, 3) := by decide +kernel
theorem dX12_sum_72 : decode cX12_sum 72 = .ok (.goto (-63), 3) := by decide +kernel
theorem dX12_sum_75 : decode cX12_sum 75 = .ok (.iconst 1, 1) := by decide +kernel
theorem dX12_sum_76 : decode cX12_sum 76 = .ok (.ireturn, 1) := by decide +kernel
def m_sum_L9 (N : Nat)  (h9 : jMem → Option (Int × jMem)) : jMem → Option (Int × jMem)
  | M3 => jb1 (m_see N M3) fun r4 M5 => jlt (fun (M6 : jMem) => jchk (0 ≤ (M6 0 8) ∧ (M6 0 8) < 400) <| jlt (fun (u8 : Int) => jlt (up M6 0 8 ((w32 (((M6 0 8)) + 1)))) fun M9 => jb1 (m_term N M9) fun r10 M11 => (if r10 = 0 then some (0, M11) else jbv (m_puts N u8 0 M11) fun M12 => h9 M12)) fun j46 => (if (M6 1 ((M6 0 8))) = 43 then j46 2 else j46 3)) fun j27 => (if r4 = 43 then j27 M5 else jb1 (m_see N M5) fun r13 M14 => (if r13 = 45 then j27 M14 else some (1, M14)))
def m_sum (N : Nat) (M : jMem) : Option (Int × jMem) := jb1 (m_term N M) fun r1 M2 => (if r1 = 0 then some (0, M2) else jfix N (m_sum_L9 N) M2)
theorem c_m_sum {l : Launch} {g : jG} (N : Nat) (M : jMem)  : ∀ o, m_sum N  M = some o → jCt l g jTM yX12_sum cX12_sum 2 (some .boolean) 0 11 [(2, 0)] M o := by
  refine jMet (own := RX12) (em := id) (L := [(0, 2, 0)]) (by decide +kernel) rfl (Nat.le_of_ble_eq_true rfl) rfl (fun K hR => ?_)
  unfold m_sum
  refine z_aload_n (pc := 0) hR 0 dX12_sum_0 rfl rfl ?_
  refine z_callv1 (pc := 1) hR (As := []) (st := []) jm_X12_term jl_RX12_189 kmo_0 (by decide) rfl (by decide) (c_m_term N M) rfl (by decide) (by decide) rfl (Nat.le_of_ble_eq_true rfl) dX12_sum_1 (fun r1 M2 => ?_)
  refine z_ifne (pc := 4) (tgt := 9) hR dX12_sum_4 (by decide) ?_ ?_
  · refine z_fix (σ := jMem) (lv := fun s => [(0, 2, 0)]) (st := fun _ => []) (M := fun s => s) (fun h9 hh9 => ?_) N M2
    intro M3
    show jZ K id 9 [(0, 2, 0)] [] M3 _
    unfold m_sum_L9
    refine z_aload_n (pc := 9) hR 0 dX12_sum_9 rfl rfl ?_
    refine z_callv1 (pc := 10) hR (As := []) (st := []) jm_X12_see jl_RX12_102 kmo_0 (by decide) rfl (by decide) (c_m_see N M3) rfl (by decide) (by decide) rfl (Nat.le_of_ble_eq_true rfl) dX12_sum_10 (fun r4 M5 => ?_)
    refine z_bipush (pc := 13) hR dX12_sum_13 rfl ?_
    refine z_join (P := fun j => ∀ (M6 : jMem), jZ K id 27 [(0, 2, 0)] [] M6 (j M6)) (fun M6 => ?_) (fun j27 hj27 => ?_)
    · refine z_aload_n (pc := 27) hR 0 dX12_sum_27 rfl rfl ?_
      refine z_getr (pc := 28) hR (c0 := 1) (r := 1) jf_RX12_7 kmo_0 (by decide) rfl rfl dX12_sum_28 ?_
      refine z_aload_n (pc := 31) hR 0 dX12_sum_31 rfl rfl ?_
      refine z_geti (pc := 32) hR (j := 8) jf_RX12_99 kmo_0 (by decide) rfl rfl dX12_sum_32 ?_
      refine z_chk (fun hc7 => ?_)
      refine z_bald (pc := 35) hR (n := 400) kma_1 hc7.1 hc7.2 dX12_sum_35 ?_
      refine z_bipush (pc := 36) hR dX12_sum_36 rfl ?_
      refine z_join (P := fun j => ∀ (u8 : Int), jZ K id 46 [(0, 2, 0)] [(0, u8)] M6 (j u8)) (fun u8 => ?_) (fun j46 hj46 => ?_)
      · refine z_istore_n (pc := 46) hR (lv' := [(1, 0, u8), (0, 2, 0)]) dX12_sum_46 rfl (by decide) rfl ?_
        refine z_aload_n (pc := 47) hR 1 dX12_sum_47 rfl rfl ?_
        refine z_dup (pc := 48) hR dX12_sum_48 (by decide) ?_
        refine z_geti (pc := 49) hR (j := 8) jf_RX12_99 kmo_0 (by decide) rfl rfl dX12_sum_49 ?_
        refine z_iconst (pc := 52) hR dX12_sum_52 rfl ?_
        refine z_iadd (pc := 53) hR dX12_sum_53 ?_
        refine z_puti (pc := 54) hR (j := 8) jp_RX12_99 kmo_0 (by decide) rfl rfl rfl rfl dX12_sum_54 (fun M9 => ?_)
        refine z_aload_n (pc := 57) hR 1 dX12_sum_57 rfl rfl ?_
        refine z_callv1 (pc := 58) hR (As := []) (st := []) jm_X12_term jl_RX12_189 kmo_0 (by decide) rfl (by decide) (c_m_term N M9) rfl (by decide) (by decide) rfl (Nat.le_of_ble_eq_true rfl) dX12_sum_58 (fun r10 M11 => ?_)
        refine z_ifne (pc := 61) (tgt := 66) hR dX12_sum_61 (by decide) ?_ ?_
        · refine z_aload_n (pc := 66) hR 1 dX12_sum_66 rfl rfl ?_
          refine z_iload_n (pc := 67) hR 0 dX12_sum_67 rfl rfl ?_
          refine z_iconst (pc := 68) hR dX12_sum_68 rfl ?_
          refine z_callv0 (pc := 69) (rk' := 3) hR (As := [(0, u8), (0, 0)]) (st := []) jm_X12_puts jl_RX12_171 kmo_0 (by decide) rfl (c_m_puts N u8 0 M11) rfl (by decide) (by decide) rfl (Nat.le_of_ble_eq_true rfl) dX12_sum_69 (fun M12 => ?_)
          refine z_goto (pc := 72) (tgt := 9) hR dX12_sum_72 (by decide) ?_
          refine z_pick (pc := 9) (lv' := [(0, 2, 0)]) hR [1] rfl ?_
          exact hh9 M12
        · refine z_iconst (pc := 64) hR dX12_sum_64 rfl ?_
          exact z_zreturn (pc := 65) hR rfl rfl (Or.inl rfl) dX12_sum_65 rfl
      refine z_icmpne (pc := 38) (tgt := 45) hR dX12_sum_38 (by decide) ?_ ?_
      · refine z_iconst (pc := 45) hR dX12_sum_45 rfl ?_
        exact hj46 3
      · refine z_iconst (pc := 41) hR dX12_sum_41 rfl ?_
        refine z_goto (pc := 42) (tgt := 46) hR dX12_sum_42 (by decide) ?_
        exact hj46 2
    refine z_icmpeq (pc := 15) (tgt := 27) hR dX12_sum_15 (by decide) ?_ ?_
    · exact hj27 M5
    · refine z_aload_n (pc := 18) hR 0 dX12_sum_18 rfl rfl ?_
      refine z_callv1 (pc := 19) hR (As := []) (st := []) jm_X12_see jl_RX12_102 kmo_0 (by decide) rfl (by decide) (c_m_see N M5) rfl (by decide) (by decide) rfl (Nat.le_of_ble_eq_true rfl) dX12_sum_19 (fun r13 M14 => ?_)
      refine z_bipush (pc := 22) hR dX12_sum_22 rfl ?_
      refine z_icmpne (pc := 24) (tgt := 75) hR dX12_sum_24 (by decide) ?_ ?_
      · refine z_iconst (pc := 75) hR dX12_sum_75 rfl ?_
        exact z_zreturn (pc := 76) hR rfl rfl (Or.inr rfl) dX12_sum_76 rfl
      · exact hj27 M14
  · refine z_iconst (pc := 7) hR dX12_sum_7 rfl ?_
    exact z_zreturn (pc := 8) hR rfl rfl (Or.inl rfl) dX12_sum_8 rfl
theorem dX12_compare_0 : decode cX12_compare 0 = .ok (.aload_n 0, 1) := by decide +kernel
theorem dX12_compare_1 : decode cX12_compare 1 = .ok (.invokevirtual 192, 3) := by decide +kernel
theorem dX12_compare_4 : decode cX12_compare 4 = .ok (.ifCond .ne 5, 3) := by decide +kernel
theorem dX12_compare_7 : decode cX12_compare 7 = .ok (.iconst 0, 1) := by decide +kernel
theorem dX12_compare_8 : decode cX12_compare 8 = .ok (.ireturn, 1) := by decide +kernel
theorem dX12_compare_9 : decode cX12_compare 9 = .ok (.aload_n 0, 1) := by decide +kernel
theorem dX12_compare_10 : decode cX12_compare 10 = .ok (.invokevirtual 102, 3) := by decide +kernel
theorem dX12_compare_13 : decode cX12_compare 13 = .ok (.istore_n 1, 1) := by decide +kernel
theorem dX12_compare_14 : decode cX12_compare 14 = .ok (.aload_n 0, 1) := by decide +kernel
theorem dX12_compare_15 : decode cX12_compare 15 = .ok (.getfield 99, 3) := by decide +kernel
theorem dX12_compare_18 : decode cX12_compare 18 = .ok (.istore_n 2, 1) := by decide +kernel
theorem dX12_compare_19 : decode cX12_compare 19 = .ok (.iload_n 1, 1) := by decide +kernel
theorem dX12_compare_20 : decode cX12_compare 20 = .ok (.bipush 60, 2) := by decide +kernel
theorem dX12_compare_22 : decode cX12_compare 22 = .ok (.if_icmp .eq 22, 3) := by decide +kernel
theorem dX12_compare_25 : decode cX12_compare 25 = .ok (.iload_n 1, 1) := by decide +kernel
theorem dX12_compare_26 : decode cX12_compare 26 = .ok (.bipush 61, 2) := by decide +kernel
theorem dX12_compare_28 : decode cX12_compare 28 = .ok (.if_icmp .eq 16, 3) := by decide +kernel
theorem dX12_compare_31 : decode cX12_compare 31 = .ok (.iload_n 1, 1) := by decide +kernel
theorem dX12_compare_32 : decode cX12_compare 32 = .ok (.bipush 62, 2) := by decide +kernel
theorem dX12_compare_34 : decode cX12_compare 34 = .ok (.if_icmp .eq 10, 3) := by decide +kernel
theorem dX12_compare_37 : decode cX12_compare 37 = .ok (.aload_n 0, 1) := by decide +kernel
theorem dX12_compare_38 : decode cX12_compare 38 = .ok (.iconst 0, 1) := by decide +kernel
theorem dX12_compare_39 : decode cX12_compare 39 = .ok (.iload_n 2, 1) := by decide +kernel
theorem dX12_compare_40 : decode cX12_compare 40 = .ok (.invokevirtual 120, 3) := by decide +kernel
theorem dX12_compare_43 : decode cX12_compare 43 = .ok (.ireturn, 1) := by decide +kernel
theorem dX12_compare_44 : decode cX12_compare 44 = .ok (.aload_n 0, 1) := by decide +kernel
theorem dX12_compare_45 : decode cX12_compare 45 = .ok (.dup, 1) := by decide +kernel
theorem dX12_compare_46 : decode cX12_compare 46 = .ok (.getfield 99, 3) := by decide +kernel
theorem dX12_compare_49 : decode cX12_compare 49 = .ok (.iconst 1, 1) := by decide +kernel
theorem dX12_compare_50 : decode cX12_compare 50 = .ok (.iadd, 1) := by decide +kernel
theorem dX12_compare_51 : decode cX12_compare 51 = .ok (.putfield 99, 3) := by decide +kernel
theorem dX12_compare_54 : decode cX12_compare 54 = .ok (.iload_n 1, 1) := by decide +kernel
theorem dX12_compare_55 : decode cX12_compare 55 = .ok (.bipush 61, 2) := by decide +kernel
theorem dX12_compare_57 : decode cX12_compare 57 = .ok (.if_icmp .eq 32, 3) := by decide +kernel
theorem dX12_compare_60 : decode cX12_compare 60 = .ok (.aload_n 0, 1) := by decide +kernel
theorem dX12_compare_61 : decode cX12_compare 61 = .ok (.getfield 99, 3) := by decide +kernel
theorem dX12_compare_64 : decode cX12_compare 64 = .ok (.aload_n 0, 1) := by decide +kernel
theorem dX12_compare_65 : decode cX12_compare 65 = .ok (.getfield 89, 3) := by decide +kernel
theorem dX12_compare_68 : decode cX12_compare 68 = .ok (.if_icmp .ge 21, 3) := by decide +kernel
theorem dX12_compare_71 : decode cX12_compare 71 = .ok (.aload_n 0, 1) := by decide +kernel
theorem dX12_compare_72 : decode cX12_compare 72 = .ok (.getfield 7, 3) := by decide +kernel
theorem dX12_compare_75 : decode cX12_compare 75 = .ok (.aload_n 0, 1) := by decide +kernel
theorem dX12_compare_76 : decode cX12_compare 76 = .ok (.getfield 99, 3) := by decide +kernel
theorem dX12_compare_79 : decode cX12_compare 79 = .ok (.baload, 1) := by decide +kernel
theorem dX12_compare_80 : decode cX12_compare 80 = .ok (.bipush 61, 2) := by decide +kernel
theorem dX12_compare_82 : decode cX12_compare 82 = .ok (.if_icmp .ne 7, 3) := by decide +kernel
theorem dX12_compare_85 : decode cX12_compare 85 = .ok (.iconst 1, 1) := by decide +kernel
theorem dX12_compare_86 : decode cX12_compare 86 = .ok (.goto 4, 3) := by decide +kernel
theorem dX12_compare_89 : decode cX12_compare 89 = .ok (.iconst 0, 1) := by decide +kernel
theorem dX12_compare_90 : decode cX12_compare 90 = .ok (.istore_n 3, 1) := by decide +kernel
theorem dX12_compare_91 : decode cX12_compare 91 = .ok (.iload_n 3, 1) := by decide +kernel
theorem dX12_compare_92 : decode cX12_compare 92 = .ok (.ifCond .eq 13, 3) := by decide +kernel
theorem dX12_compare_95 : decode cX12_compare 95 = .ok (.aload_n 0, 1) := by decide +kernel
theorem dX12_compare_96 : decode cX12_compare 96 = .ok (.dup, 1) := by decide +kernel
theorem dX12_compare_97 : decode cX12_compare 97 = .ok (.getfield 99, 3) := by decide +kernel
theorem dX12_compare_100 : decode cX12_compare 100 = .ok (.iconst 1, 1) := by decide +kernel
theorem dX12_compare_101 : decode cX12_compare 101 = .ok (.iadd, 1) := by decide +kernel
theorem dX12_compare_102 : decode cX12_compare 102 = .ok (.putfield 99, 3) := by decide +kernel
theorem dX12_compare_105 : decode cX12_compare 105 = .ok (.aload_n 0, 1) := by decide +kernel
theorem dX12_compare_106 : decode cX12_compare 106 = .ok (.iload_n 2, 1) := by decide +kernel
theorem dX12_compare_107 : decode cX12_compare 107 = .ok (.invokevirtual 179, 3) := by decide +kernel
theorem dX12_compare_110 : decode cX12_compare 110 = .ok (.ifCond .ne 5, 3) := by decide +kernel
theorem dX12_compare_113 : decode cX12_compare 113 = .ok (.iconst 0, 1) := by decide +kernel
theorem dX12_compare_114 : decode cX12_compare 114 = .ok (.ireturn, 1) := by decide +kernel
theorem dX12_compare_115 : decode cX12_compare 115 = .ok (.iload_n 1, 1) := by decide +kernel
theorem dX12_compare_116 : decode cX12_compare 116 = .ok (.bipush 60, 2) := by decide +kernel
theorem dX12_compare_118 : decode cX12_compare 118 = .ok (.if_icmp .ne 15, 3) := by decide +kernel
theorem dX12_compare_121 : decode cX12_compare 121 = .ok (.iload_n 3, 1) := by decide +kernel
theorem dX12_compare_122 : decode cX12_compare 122 = .ok (.ifCond .eq 7, 3) := by decide +kernel
theorem dX12_compare_125 : decode cX12_compare 125 = .ok (.iconst 1, 1) := by decide +kernel
theorem dX12_compare_126 : decode cX12_compare 126 = .ok (.goto 26, 3) := by decide +kernel
theorem dX12_compare_129 : decode cX12_compare 129 = .ok (.iconst 0, 1) := by decide +kernel
theorem dX12_compare_130 : decode cX12_compare 130 = .ok (.goto 22, 3) := by decide +kernel
theorem dX12_compare_133 : decode cX12_compare 133 = .ok (.iload_n 1, 1) := by decide +kernel
theorem dX12_compare_134 : decode cX12_compare 134 = .ok (.bipush 61, 2) := by decide +kernel
theorem dX12_compare_136 : decode cX12_compare 136 = .ok (.if_icmp .ne 7, 3) := by decide +kernel
theorem dX12_compare_139 : decode cX12_compare 139 = .ok (.iconst 2, 1) := by decide +kernel
theorem dX12_compare_140 : decode cX12_compare 140 = .ok (.goto 12, 3) := by decide +kernel
theorem dX12_compare_143 : decode cX12_compare 143 = .ok (.iload_n 3, 1) := by decide +kernel
theorem dX12_compare_144 : decode cX12_compare 144 = .ok (.ifCond .eq 7, 3) := by decide +kernel
theorem dX12_compare_147 : decode cX12_compare 147 = .ok (.iconst 3, 1) := by decide +kernel
theorem dX12_compare_148 : decode cX12_compare 148 = .ok (.goto 4, 3) := by decide +kernel
theorem dX12_compare_151 : decode cX12_compare 151 = .ok (.iconst 4, 1) := by decide +kernel
theorem dX12_compare_152 : decode cX12_compare 152 = .ok (.istore 4, 2) := by decide +kernel
theorem dX12_compare_154 : decode cX12_compare 154 = .ok (.aload_n 0, 1) := by decide +kernel
theorem dX12_compare_155 : decode cX12_compare 155 = .ok (.invokevirtual 192, 3) := by decide +kernel
theorem dX12_compare_158 : decode cX12_compare 158 = .ok (.ifCond .ne 5, 3) := by decide +kernel
theorem dX12_compare_161 : decode cX12_compare 161 = .ok (.iconst 0, 1) := by decide +kernel
theorem dX12_compare_162 : decode cX12_compare 162 = .ok (.ireturn, 1) := by decide +kernel
theorem dX12_compare_163 : decode cX12_compare 163 = .ok (.aload_n 0, 1) := by decide +kernel
theorem dX12_compare_164 : decode cX12_compare 164 = .ok (.bipush 6, 2) := by decide +kernel
theorem dX12_compare_166 : decode cX12_compare 166 = .ok (.iload 4, 2) := by decide +kernel
theorem dX12_compare_168 : decode cX12_compare 168 = .ok (.iadd, 1) := by decide +kernel
theorem dX12_compare_169 : decode cX12_compare 169 = .ok (.iconst 0, 1) := by decide +kernel
theorem dX12_compare_170 : decode cX12_compare 170 = .ok (.invokevirtual 171, 3) := by decide +kernel
theorem dX12_compare_173 : decode cX12_compare 173 = .ok (.iconst 1, 1) := by decide +kernel
theorem dX12_compare_174 : decode cX12_compare 174 = .ok (.ireturn, 1) := by decide +kernel
def m_compare (N : Nat) (M : jMem) : Option (Int × jMem) := jb1 (m_sum N M) fun r1 M2 => (if r1 = 0 then some (0, M2) else jb1 (m_see N M2) fun r3 M4 => jlt ((M4 0 8)) fun v5 => jlt (fun (_ : Unit) => jlt (up M4 0 8 ((w32 (((M4 0 8)) + 1)))) fun M6 => jlt (fun (u7 : Int) => jlt (fun (M8 : jMem) => jb1 (m_makes N v5 M8) fun r9 M10 => (if r9 = 0 then some (0, M10) else jlt (fun (u11 : Int) => jb1 (m_sum N M10) fun r12 M13 => (if r12 = 0 then some (0, M13) else jbv (m_puts N ((w32 (6 + u11))) 0 M13) fun M14 => some (1, M14))) fun j152 => (if r3 = 60 then (if u7 = 0 then j152 0 else j152 1) else (if r3 = 61 then j152 2 else (if u7 = 0 then j152 4 else j152 3))))) fun j105 => (if u7 = 0 then j105 M6 else jlt (up M6 0 8 ((w32 (((M6 0 8)) + 1)))) fun M15 => j105 M15)) fun j90 => (if r3 = 61 then j90 0 else (if (M6 0 8) < (M6 0 1) then jchk (0 ≤ (M6 0 8) ∧ (M6 0 8) < 400) <| (if (M6 1 ((M6 0 8))) = 61 then j90 1 else j90 0) else j90 0))) fun j44 => (if r3 = 60 then j44 () else (if r3 = 61 then j44 () else (if r3 = 62 then j44 () else jb1 (m_fails N 0 v5 M4) fun r17 M18 => jchk (r17 = 0 ∨ r17 = 1) <| some (r17, M18)))))
theorem c_m_compare {l : Launch} {g : jG} (N : Nat) (M : jMem)  : ∀ o, m_compare N  M = some o → jCt l g jTM yX12_compare cX12_compare 5 (some .boolean) 0 13 [(2, 0)] M o := by
  refine jMet (own := RX12) (em := id) (L := [(0, 2, 0)]) (by decide +kernel) rfl (Nat.le_of_ble_eq_true rfl) rfl (fun K hR => ?_)
  unfold m_compare
  refine z_aload_n (pc := 0) hR 0 dX12_compare_0 rfl rfl ?_
  refine z_callv1 (pc := 1) hR (As := []) (st := []) jm_X12_sum jl_RX12_192 kmo_0 (by decide) rfl (by decide) (c_m_sum N M) rfl (by decide) (by decide) rfl (Nat.le_of_ble_eq_true rfl) dX12_compare_1 (fun r1 M2 => ?_)
  refine z_ifne (pc := 4) (tgt := 9) hR dX12_compare_4 (by decide) ?_ ?_
  · refine z_aload_n (pc := 9) hR 0 dX12_compare_9 rfl rfl ?_
    refine z_callv1 (pc := 10) hR (As := []) (st := []) jm_X12_see jl_RX12_102 kmo_0 (by decide) rfl (by decide) (c_m_see N M2) rfl (by decide) (by decide) rfl (Nat.le_of_ble_eq_true rfl) dX12_compare_10 (fun r3 M4 => ?_)
    refine z_istore_n (pc := 13) hR (lv' := [(1, 0, r3), (0, 2, 0)]) dX12_compare_13 rfl (by decide) rfl ?_
    refine z_aload_n (pc := 14) hR 1 dX12_compare_14 rfl rfl ?_
    refine z_geti (pc := 15) hR (j := 8) jf_RX12_99 kmo_0 (by decide) rfl rfl dX12_compare_15 ?_
    refine z_let1 (fun v5 => ?_)
    refine z_istore_n (pc := 18) hR (lv' := [(2, 0, v5), (1, 0, r3), (0, 2, 0)]) dX12_compare_18 rfl (by decide) rfl ?_
    refine z_iload_n (pc := 19) hR 1 dX12_compare_19 rfl rfl ?_
    refine z_bipush (pc := 20) hR dX12_compare_20 rfl ?_
    refine z_join (P := fun j => ∀ (_ : Unit), jZ K id 44 [(0, 2, 0), (1, 0, r3), (2, 0, v5)] [] M4 (j ())) (fun _ => ?_) (fun j44 hj44 => ?_)
    · refine z_aload_n (pc := 44) hR 0 dX12_compare_44 rfl rfl ?_
      refine z_dup (pc := 45) hR dX12_compare_45 (by decide) ?_
      refine z_geti (pc := 46) hR (j := 8) jf_RX12_99 kmo_0 (by decide) rfl rfl dX12_compare_46 ?_
      refine z_iconst (pc := 49) hR dX12_compare_49 rfl ?_
      refine z_iadd (pc := 50) hR dX12_compare_50 ?_
      refine z_puti (pc := 51) hR (j := 8) jp_RX12_99 kmo_0 (by decide) rfl rfl rfl rfl dX12_compare_51 (fun M6 => ?_)
      refine z_iload_n (pc := 54) hR 1 dX12_compare_54 rfl rfl ?_
      refine z_bipush (pc := 55) hR dX12_compare_55 rfl ?_
      refine z_join (P := fun j => ∀ (u7 : Int), jZ K id 90 [(0, 2, 0), (1, 0, r3), (2, 0, v5)] [(0, u7)] M6 (j u7)) (fun u7 => ?_) (fun j90 hj90 => ?_)
      · refine z_istore_n (pc := 90) hR (lv' := [(3, 0, u7), (0, 2, 0), (1, 0, r3), (2, 0, v5)]) dX12_compare_90 rfl (by decide) rfl ?_
        refine z_iload_n (pc := 91) hR 0 dX12_compare_91 rfl rfl ?_
        refine z_join (P := fun j => ∀ (M8 : jMem), jZ K id 105 [(0, 2, 0), (1, 0, r3), (2, 0, v5), (3, 0, u7)] [] M8 (j M8)) (fun M8 => ?_) (fun j105 hj105 => ?_)
        · refine z_aload_n (pc := 105) hR 0 dX12_compare_105 rfl rfl ?_
          refine z_iload_n (pc := 106) hR 2 dX12_compare_106 rfl rfl ?_
          refine z_callv1 (pc := 107) hR (As := [(0, v5)]) (st := []) jm_X12_makes jl_RX12_179 kmo_0 (by decide) rfl (by decide) (c_m_makes N v5 M8) rfl (by decide) (by decide) rfl (Nat.le_of_ble_eq_true rfl) dX12_compare_107 (fun r9 M10 => ?_)
          refine z_ifne (pc := 110) (tgt := 115) hR dX12_compare_110 (by decide) ?_ ?_
          · refine z_iload_n (pc := 115) hR 1 dX12_compare_115 rfl rfl ?_
            refine z_bipush (pc := 116) hR dX12_compare_116 rfl ?_
            refine z_join (P := fun j => ∀ (u11 : Int), jZ K id 152 [(0, 2, 0)] [(0, u11)] M10 (j u11)) (fun u11 => ?_) (fun j152 hj152 => ?_)
            · refine z_istore (pc := 152) hR (lv' := [(4, 0, u11), (0, 2, 0)]) dX12_compare_152 (by decide) rfl ?_
              refine z_aload_n (pc := 154) hR 1 dX12_compare_154 rfl rfl ?_
              refine z_callv1 (pc := 155) hR (As := []) (st := []) jm_X12_sum jl_RX12_192 kmo_0 (by decide) rfl (by decide) (c_m_sum N M10) rfl (by decide) (by decide) rfl (Nat.le_of_ble_eq_true rfl) dX12_compare_155 (fun r12 M13 => ?_)
              refine z_ifne (pc := 158) (tgt := 163) hR dX12_compare_158 (by decide) ?_ ?_
              · refine z_aload_n (pc := 163) hR 1 dX12_compare_163 rfl rfl ?_
                refine z_bipush (pc := 164) hR dX12_compare_164 rfl ?_
                refine z_iload (pc := 166) hR 0 dX12_compare_166 rfl ?_
                refine z_iadd (pc := 168) hR dX12_compare_168 ?_
                refine z_iconst (pc := 169) hR dX12_compare_169 rfl ?_
                refine z_callv0 (pc := 170) (rk' := 3) hR (As := [(0, (w32 (6 + u11))), (0, 0)]) (st := []) jm_X12_puts jl_RX12_171 kmo_0 (by decide) rfl (c_m_puts N ((w32 (6 + u11))) 0 M13) rfl (by decide) (by decide) rfl (Nat.le_of_ble_eq_true rfl) dX12_compare_170 (fun M14 => ?_)
                refine z_iconst (pc := 173) hR dX12_compare_173 rfl ?_
                exact z_zreturn (pc := 174) hR rfl rfl (Or.inr rfl) dX12_compare_174 rfl
              · refine z_iconst (pc := 161) hR dX12_compare_161 rfl ?_
                exact z_zreturn (pc := 162) hR rfl rfl (Or.inl rfl) dX12_compare_162 rfl
            refine z_icmpne (pc := 118) (tgt := 133) hR dX12_compare_118 (by decide) ?_ ?_
            · refine z_iload_n (pc := 133) hR 1 dX12_compare_133 rfl rfl ?_
              refine z_bipush (pc := 134) hR dX12_compare_134 rfl ?_
              refine z_icmpne (pc := 136) (tgt := 143) hR dX12_compare_136 (by decide) ?_ ?_
              · refine z_iload_n (pc := 143) hR 3 dX12_compare_143 rfl rfl ?_
                refine z_ifeq (pc := 144) (tgt := 151) hR dX12_compare_144 (by decide) ?_ ?_
                · refine z_iconst (pc := 151) hR dX12_compare_151 rfl ?_
                  refine z_pick (pc := 152) (lv' := [(0, 2, 0)]) hR [0] rfl ?_
                  exact hj152 4
                · refine z_iconst (pc := 147) hR dX12_compare_147 rfl ?_
                  refine z_goto (pc := 148) (tgt := 152) hR dX12_compare_148 (by decide) ?_
                  refine z_pick (pc := 152) (lv' := [(0, 2, 0)]) hR [0] rfl ?_
                  exact hj152 3
              · refine z_iconst (pc := 139) hR dX12_compare_139 rfl ?_
                refine z_goto (pc := 140) (tgt := 152) hR dX12_compare_140 (by decide) ?_
                refine z_pick (pc := 152) (lv' := [(0, 2, 0)]) hR [0] rfl ?_
                exact hj152 2
            · refine z_iload_n (pc := 121) hR 3 dX12_compare_121 rfl rfl ?_
              refine z_ifeq (pc := 122) (tgt := 129) hR dX12_compare_122 (by decide) ?_ ?_
              · refine z_iconst (pc := 129) hR dX12_compare_129 rfl ?_
                refine z_goto (pc := 130) (tgt := 152) hR dX12_compare_130 (by decide) ?_
                refine z_pick (pc := 152) (lv' := [(0, 2, 0)]) hR [0] rfl ?_
                exact hj152 0
              · refine z_iconst (pc := 125) hR dX12_compare_125 rfl ?_
                refine z_goto (pc := 126) (tgt := 152) hR dX12_compare_126 (by decide) ?_
                refine z_pick (pc := 152) (lv' := [(0, 2, 0)]) hR [0] rfl ?_
                exact hj152 1
          · refine z_iconst (pc := 113) hR dX12_compare_113 rfl ?_
            exact z_zreturn (pc := 114) hR rfl rfl (Or.inl rfl) dX12_compare_114 rfl
        refine z_ifeq (pc := 92) (tgt := 105) hR dX12_compare_92 (by decide) ?_ ?_
        · refine z_pick (pc := 105) (lv' := [(0, 2, 0), (1, 0, r3), (2, 0, v5), (3, 0, u7)]) hR [1, 2, 3, 0] rfl ?_
          exact hj105 M6
        · refine z_aload_n (pc := 95) hR 1 dX12_compare_95 rfl rfl ?_
          refine z_dup (pc := 96) hR dX12_compare_96 (by decide) ?_
          refine z_geti (pc := 97) hR (j := 8) jf_RX12_99 kmo_0 (by decide) rfl rfl dX12_compare_97 ?_
          refine z_iconst (pc := 100) hR dX12_compare_100 rfl ?_
          refine z_iadd (pc := 101) hR dX12_compare_101 ?_
          refine z_puti (pc := 102) hR (j := 8) jp_RX12_99 kmo_0 (by decide) rfl rfl rfl rfl dX12_compare_102 (fun M15 => ?_)
          refine z_pick (pc := 105) (lv' := [(0, 2, 0), (1, 0, r3), (2, 0, v5), (3, 0, u7)]) hR [1, 2, 3, 0] rfl ?_
          exact hj105 M15
      refine z_icmpeq (pc := 57) (tgt := 89) hR dX12_compare_57 (by decide) ?_ ?_
      · refine z_iconst (pc := 89) hR dX12_compare_89 rfl ?_
        exact hj90 0
      · refine z_aload_n (pc := 60) hR 0 dX12_compare_60 rfl rfl ?_
        refine z_geti (pc := 61) hR (j := 8) jf_RX12_99 kmo_0 (by decide) rfl rfl dX12_compare_61 ?_
        refine z_aload_n (pc := 64) hR 0 dX12_compare_64 rfl rfl ?_
        refine z_geti (pc := 65) hR (j := 1) jf_RX12_89 kmo_0 (by decide) rfl rfl dX12_compare_65 ?_
        refine z_icmpge (pc := 68) (tgt := 89) hR dX12_compare_68 (by decide) ?_ ?_
        · refine z_iconst (pc := 89) hR dX12_compare_89 rfl ?_
          exact hj90 0
        · refine z_aload_n (pc := 71) hR 0 dX12_compare_71 rfl rfl ?_
          refine z_getr (pc := 72) hR (c0 := 1) (r := 1) jf_RX12_7 kmo_0 (by decide) rfl rfl dX12_compare_72 ?_
          refine z_aload_n (pc := 75) hR 0 dX12_compare_75 rfl rfl ?_
          refine z_geti (pc := 76) hR (j := 8) jf_RX12_99 kmo_0 (by decide) rfl rfl dX12_compare_76 ?_
          refine z_chk (fun hc16 => ?_)
          refine z_bald (pc := 79) hR (n := 400) kma_1 hc16.1 hc16.2 dX12_compare_79 ?_
          refine z_bipush (pc := 80) hR dX12_compare_80 rfl ?_
          refine z_icmpne (pc := 82) (tgt := 89) hR dX12_compare_82 (by decide) ?_ ?_
          · refine z_iconst (pc := 89) hR dX12_compare_89 rfl ?_
            exact hj90 0
          · refine z_iconst (pc := 85) hR dX12_compare_85 rfl ?_
            refine z_goto (pc := 86) (tgt := 90) hR dX12_compare_86 (by decide) ?_
            exact hj90 1
    refine z_icmpeq (pc := 22) (tgt := 44) hR dX12_compare_22 (by decide) ?_ ?_
    · refine z_pick (pc := 44) (lv' := [(0, 2, 0), (1, 0, r3), (2, 0, v5)]) hR [2, 1, 0] rfl ?_
      exact hj44 ()
    · refine z_iload_n (pc := 25) hR 1 dX12_compare_25 rfl rfl ?_
      refine z_bipush (pc := 26) hR dX12_compare_26 rfl ?_
      refine z_icmpeq (pc := 28) (tgt := 44) hR dX12_compare_28 (by decide) ?_ ?_
      · refine z_pick (pc := 44) (lv' := [(0, 2, 0), (1, 0, r3), (2, 0, v5)]) hR [2, 1, 0] rfl ?_
        exact hj44 ()
      · refine z_iload_n (pc := 31) hR 1 dX12_compare_31 rfl rfl ?_
        refine z_bipush (pc := 32) hR dX12_compare_32 rfl ?_
        refine z_icmpeq (pc := 34) (tgt := 44) hR dX12_compare_34 (by decide) ?_ ?_
        · refine z_pick (pc := 44) (lv' := [(0, 2, 0), (1, 0, r3), (2, 0, v5)]) hR [2, 1, 0] rfl ?_
          exact hj44 ()
        · refine z_aload_n (pc := 37) hR 2 dX12_compare_37 rfl rfl ?_
          refine z_iconst (pc := 38) hR dX12_compare_38 rfl ?_
          refine z_iload_n (pc := 39) hR 0 dX12_compare_39 rfl rfl ?_
          refine z_callv1 (pc := 40) hR (As := [(0, 0), (0, v5)]) (st := []) jm_X12_fails jl_RX12_120 kmo_0 (by decide) rfl (by decide) (c_m_fails N 0 v5 M4) rfl (by decide) (by decide) rfl (Nat.le_of_ble_eq_true rfl) dX12_compare_40 (fun r17 M18 => ?_)
          refine z_chk (fun hc19 => ?_)
          exact z_zreturn (pc := 43) hR rfl rfl hc19 dX12_compare_43 rfl
  · refine z_iconst (pc := 7) hR dX12_compare_7 rfl ?_
    exact z_zreturn (pc := 8) hR rfl rfl (Or.inl rfl) dX12_compare_8 rfl
theorem dX12_fact_0 : decode cX12_fact 0 = .ok (.iconst 1, 1) := by decide +kernel
theorem dX12_fact_1 : decode cX12_fact 1 = .ok (.istore_n 1, 1) := by decide +kernel
theorem dX12_fact_2 : decode cX12_fact 2 = .ok (.iload_n 1, 1) := by decide +kernel
theorem dX12_fact_3 : decode cX12_fact 3 = .ok (.ifCond .eq 72, 3) := by decide +kernel
theorem dX12_fact_6 : decode cX12_fact 6 = .ok (.iconst 0, 1) := by decide +kernel
theorem dX12_fact_7 : decode cX12_fact 7 = .ok (.istore_n 1, 1) := by decide +kernel
theorem dX12_fact_8 : decode cX12_fact 8 = .ok (.aload_n 0, 1) := by decide +kernel
theorem dX12_fact_9 : decode cX12_fact 9 = .ok (.invokevirtual 102, 3) := by decide +kernel
theorem dX12_fact_12 : decode cX12_fact 12 = .ok (.istore_n 2, 1) := by decide +kernel
theorem dX12_fact_13 : decode cX12_fact 13 = .ok (.aload_n 0, 1) := by decide +kernel
theorem dX12_fact_14 : decode cX12_fact 14 = .ok (.ldc2_w 195, 3) := by decide +kernel
theorem dX12_fact_17 : decode cX12_fact 17 = .ok (.invokevirtual 110, 3) := by decide +kernel
theorem dX12_fact_20 : decode cX12_fact 20 = .ok (.ifCond .eq 23, 3) := by decide +kernel
theorem dX12_fact_23 : decode cX12_fact 23 = .ok (.aload_n 0, 1) := by decide +kernel
theorem dX12_fact_24 : decode cX12_fact 24 = .ok (.bipush 11, 2) := by decide +kernel
theorem dX12_fact_26 : decode cX12_fact 26 = .ok (.invokevirtual 197, 3) := by decide +kernel
theorem dX12_fact_29 : decode cX12_fact 29 = .ok (.ifCond .ne 5, 3) := by decide +kernel
theorem dX12_fact_32 : decode cX12_fact 32 = .ok (.iconst 0, 1) := by decide +kernel
theorem dX12_fact_33 : decode cX12_fact 33 = .ok (.ireturn, 1) := by decide +kernel
theorem dX12_fact_34 : decode cX12_fact 34 = .ok (.aload_n 0, 1) := by decide +kernel
theorem dX12_fact_35 : decode cX12_fact 35 = .ok (.invokevirtual 114, 3) := by decide +kernel
theorem dX12_fact_38 : decode cX12_fact 38 = .ok (.iconst 1, 1) := by decide +kernel
theorem dX12_fact_39 : decode cX12_fact 39 = .ok (.istore_n 1, 1) := by decide +kernel
theorem dX12_fact_40 : decode cX12_fact 40 = .ok (.goto 32, 3) := by decide +kernel
theorem dX12_fact_43 : decode cX12_fact 43 = .ok (.iload_n 2, 1) := by decide +kernel
theorem dX12_fact_44 : decode cX12_fact 44 = .ok (.bipush 91, 2) := by decide +kernel
theorem dX12_fact_46 : decode cX12_fact 46 = .ok (.if_icmp .ne 26, 3) := by decide +kernel
theorem dX12_fact_49 : decode cX12_fact 49 = .ok (.aload_n 0, 1) := by decide +kernel
theorem dX12_fact_50 : decode cX12_fact 50 = .ok (.bipush 91, 2) := by decide +kernel
theorem dX12_fact_52 : decode cX12_fact 52 = .ok (.invokevirtual 197, 3) := by decide +kernel
theorem dX12_fact_55 : decode cX12_fact 55 = .ok (.ifCond .ne 5, 3) := by decide +kernel
theorem dX12_fact_58 : decode cX12_fact 58 = .ok (.iconst 0, 1) := by decide +kernel
theorem dX12_fact_59 : decode cX12_fact 59 = .ok (.ireturn, 1) := by decide +kernel
theorem dX12_fact_60 : decode cX12_fact 60 = .ok (.aload_n 0, 1) := by decide +kernel
theorem dX12_fact_61 : decode cX12_fact 61 = .ok (.dup, 1) := by decide +kernel
theorem dX12_fact_62 : decode cX12_fact 62 = .ok (.getfield 99, 3) := by decide +kernel
theorem dX12_fact_65 : decode cX12_fact 65 = .ok (.iconst 1, 1) := by decide +kernel
theorem dX12_fact_66 : decode cX12_fact 66 = .ok (.iadd, 1) := by decide +kernel
theorem dX12_fact_67 : decode cX12_fact 67 = .ok (.putfield 99, 3) := by decide +kernel
theorem dX12_fact_70 : decode cX12_fact 70 = .ok (.iconst 1, 1) := by decide +kernel
theorem dX12_fact_71 : decode cX12_fact 71 = .ok (.istore_n 1, 1) := by decide +kernel
theorem dX12_fact_72 : decode cX12_fact 72 = .ok (.goto (-70), 3) := by decide +kernel
theorem dX12_fact_75 : decode cX12_fact 75 = .ok (.aload_n 0, 1) := by decide +kernel
theorem dX12_fact_76 : decode cX12_fact 76 = .ok (.invokevirtual 200, 3) := by decide +kernel
theorem dX12_fact_79 : decode cX12_fact 79 = .ok (.ireturn, 1) := by decide +kernel
def m_fact_L2 (N : Nat)  (h2 : (Int × jMem) → Option (Int × jMem)) : Int × jMem → Option (Int × jMem)
  | (x1, M2) => (if x1 = 0 then jb1 (m_compare N M2) fun r3 M4 => jchk (r3 = 0 ∨ r3 = 1) <| some (r3, M4) else jb1 (m_see N M2) fun r6 M7 => jb1 (m_isWord N 7237492 M7) fun r8 M9 => (if r8 = 0 then (if r6 = 91 then jb1 (m_opens N 91 M9) fun r10 M11 => (if r10 = 0 then some (0, M11) else jlt (up M11 0 8 ((w32 (((M11 0 8)) + 1)))) fun M12 => h2 (1, M12)) else h2 (0, M9)) else jb1 (m_opens N 11 M9) fun r13 M14 => (if r13 = 0 then some (0, M14) else jbv (m_passWord N M14) fun M15 => h2 (1, M15))))
def m_fact (N : Nat) (M : jMem) : Option (Int × jMem) := jfix N (m_fact_L2 N) (1, M)
theorem c_m_fact {l : Launch} {g : jG} (N : Nat) (M : jMem)  : ∀ o, m_fact N  M = some o → jCt l g jTM yX12_fact cX12_fact 3 (some .boolean) 0 15 [(2, 0)] M o := by
  refine jMet (own := RX12) (em := id) (L := [(0, 2, 0)]) (by decide +kernel) rfl (Nat.le_of_ble_eq_true rfl) rfl (fun K hR => ?_)
  unfold m_fact
  refine z_iconst (pc := 0) hR dX12_fact_0 rfl ?_
  refine z_istore_n (pc := 1) hR (lv' := [(1, 0, 1), (0, 2, 0)]) dX12_fact_1 rfl (by decide) rfl ?_
  refine z_pick (pc := 2) (lv' := [(0, 2, 0), (1, 0, 1)]) hR [1, 0] rfl ?_
  refine z_fix (σ := Int × jMem) (lv := fun s => [(0, 2, 0), (1, 0, s.1)]) (st := fun _ => []) (M := fun s => s.2) (fun h2 hh2 => ?_) N (1, M)
  rintro ⟨x1, M2⟩
  show jZ K id 2 [(0, 2, 0), (1, 0, x1)] [] M2 _
  unfold m_fact_L2
  refine z_iload_n (pc := 2) hR 1 dX12_fact_2 rfl rfl ?_
  refine z_ifeq (pc := 3) (tgt := 75) hR dX12_fact_3 (by decide) ?_ ?_
  · refine z_aload_n (pc := 75) hR 0 dX12_fact_75 rfl rfl ?_
    refine z_callv1 (pc := 76) hR (As := []) (st := []) jm_X12_compare jl_RX12_200 kmo_0 (by decide) rfl (by decide) (c_m_compare N M2) rfl (by decide) (by decide) rfl (Nat.le_of_ble_eq_true rfl) dX12_fact_76 (fun r3 M4 => ?_)
    refine z_chk (fun hc5 => ?_)
    exact z_zreturn (pc := 79) hR rfl rfl hc5 dX12_fact_79 rfl
  · refine z_iconst (pc := 6) hR dX12_fact_6 rfl ?_
    refine z_istore_n (pc := 7) hR (lv' := [(1, 0, 0), (0, 2, 0)]) dX12_fact_7 rfl (by decide) rfl ?_
    refine z_aload_n (pc := 8) hR 1 dX12_fact_8 rfl rfl ?_
    refine z_callv1 (pc := 9) hR (As := []) (st := []) jm_X12_see jl_RX12_102 kmo_0 (by decide) rfl (by decide) (c_m_see N M2) rfl (by decide) (by decide) rfl (Nat.le_of_ble_eq_true rfl) dX12_fact_9 (fun r6 M7 => ?_)
    refine z_istore_n (pc := 12) hR (lv' := [(2, 0, r6), (1, 0, 0), (0, 2, 0)]) dX12_fact_12 rfl (by decide) rfl ?_
    refine z_aload_n (pc := 13) hR 2 dX12_fact_13 rfl rfl ?_
    refine z_ldc2 (pc := 14) hR (n := 7237492) jc_RX12_195 (by decide) rfl dX12_fact_14 ?_
    refine z_callv1 (pc := 17) hR (As := [(1, 7237492)]) (st := []) jm_X12_isWord jl_RX12_110 kmo_0 (by decide) rfl (by decide) (c_m_isWord N 7237492 M7) rfl (by decide) (by decide) rfl (Nat.le_of_ble_eq_true rfl) dX12_fact_17 (fun r8 M9 => ?_)
    refine z_ifeq (pc := 20) (tgt := 43) hR dX12_fact_20 (by decide) ?_ ?_
    · refine z_iload_n (pc := 43) hR 0 dX12_fact_43 rfl rfl ?_
      refine z_bipush (pc := 44) hR dX12_fact_44 rfl ?_
      refine z_icmpne (pc := 46) (tgt := 72) hR dX12_fact_46 (by decide) ?_ ?_
      · refine z_goto (pc := 72) (tgt := 2) hR dX12_fact_72 (by decide) ?_
        refine z_pick (pc := 2) (lv' := [(0, 2, 0), (1, 0, 0)]) hR [2, 1] rfl ?_
        exact hh2 (0, M9)
      · refine z_aload_n (pc := 49) hR 2 dX12_fact_49 rfl rfl ?_
        refine z_bipush (pc := 50) hR dX12_fact_50 rfl ?_
        refine z_callv1 (pc := 52) hR (As := [(0, 91)]) (st := []) jm_X12_opens jl_RX12_197 kmo_0 (by decide) rfl (by decide) (c_m_opens N 91 M9) rfl (by decide) (by decide) rfl (Nat.le_of_ble_eq_true rfl) dX12_fact_52 (fun r10 M11 => ?_)
        refine z_ifne (pc := 55) (tgt := 60) hR dX12_fact_55 (by decide) ?_ ?_
        · refine z_aload_n (pc := 60) hR 2 dX12_fact_60 rfl rfl ?_
          refine z_dup (pc := 61) hR dX12_fact_61 (by decide) ?_
          refine z_geti (pc := 62) hR (j := 8) jf_RX12_99 kmo_0 (by decide) rfl rfl dX12_fact_62 ?_
          refine z_iconst (pc := 65) hR dX12_fact_65 rfl ?_
          refine z_iadd (pc := 66) hR dX12_fact_66 ?_
          refine z_puti (pc := 67) hR (j := 8) jp_RX12_99 kmo_0 (by decide) rfl rfl rfl rfl dX12_fact_67 (fun M12 => ?_)
          refine z_iconst (pc := 70) hR dX12_fact_70 rfl ?_
          refine z_istore_n (pc := 71) hR (lv' := [(1, 0, 1), (2, 0, r6), (0, 2, 0)]) dX12_fact_71 rfl (by decide) rfl ?_
          refine z_goto (pc := 72) (tgt := 2) hR dX12_fact_72 (by decide) ?_
          refine z_pick (pc := 2) (lv' := [(0, 2, 0), (1, 0, 1)]) hR [2, 0] rfl ?_
          exact hh2 (1, M12)
        · refine z_iconst (pc := 58) hR dX12_fact_58 rfl ?_
          exact z_zreturn (pc := 59) hR rfl rfl (Or.inl rfl) dX12_fact_59 rfl
    · refine z_aload_n (pc := 23) hR 2 dX12_fact_23 rfl rfl ?_
      refine z_bipush (pc := 24) hR dX12_fact_24 rfl ?_
      refine z_callv1 (pc := 26) hR (As := [(0, 11)]) (st := []) jm_X12_opens jl_RX12_197 kmo_0 (by decide) rfl (by decide) (c_m_opens N 11 M9) rfl (by decide) (by decide) rfl (Nat.le_of_ble_eq_true rfl) dX12_fact_26 (fun r13 M14 => ?_)
      refine z_ifne (pc := 29) (tgt := 34) hR dX12_fact_29 (by decide) ?_ ?_
      · refine z_aload_n (pc := 34) hR 2 dX12_fact_34 rfl rfl ?_
        refine z_callv0 (pc := 35) (rk' := 3) hR (As := []) (st := []) jm_X12_passWord jl_RX12_114 kmo_0 (by decide) rfl (c_m_passWord N M14) rfl (by decide) (by decide) rfl (Nat.le_of_ble_eq_true rfl) dX12_fact_35 (fun M15 => ?_)
        refine z_iconst (pc := 38) hR dX12_fact_38 rfl ?_
        refine z_istore_n (pc := 39) hR (lv' := [(1, 0, 1), (2, 0, r6), (0, 2, 0)]) dX12_fact_39 rfl (by decide) rfl ?_
        refine z_goto (pc := 40) (tgt := 72) hR dX12_fact_40 (by decide) ?_
        refine z_goto (pc := 72) (tgt := 2) hR dX12_fact_72 (by decide) ?_
        refine z_pick (pc := 2) (lv' := [(0, 2, 0), (1, 0, 1)]) hR [2, 0] rfl ?_
        exact hh2 (1, M15)
      · refine z_iconst (pc := 32) hR dX12_fact_32 rfl ?_
        exact z_zreturn (pc := 33) hR rfl rfl (Or.inl rfl) dX12_fact_33 rfl
theorem dX12_isInside_0 : decode cX12_isInside 0 = .ok (.iconst 0, 1) := by decide +kernel
theorem dX12_isInside_1 : decode cX12_isInside 1 = .ok (.istore_n 1, 1) := by decide +kernel
theorem dX12_isInside_2 : decode cX12_isInside 2 = .ok (.iload_n 1, 1) := by decide +kernel
theorem dX12_isInside_3 : decode cX12_isInside 3 = .ok (.aload_n 0, 1) := by decide +kernel
theorem dX12_isInside_4 : decode cX12_isInside 4 = .ok (.getfield 164, 3) := by decide +kernel
theorem dX12_isInside_7 : decode cX12_isInside 7 = .ok (.if_icmp .ge 22, 3) := by decide +kernel
theorem dX12_isInside_10 : decode cX12_isInside 10 = .ok (.aload_n 0, 1) := by decide +kernel
theorem dX12_isInside_11 : decode cX12_isInside 11 = .ok (.getfield 29, 3) := by decide +kernel
theorem dX12_isInside_14 : decode cX12_isInside 14 = .ok (.iload_n 1, 1) := by decide +kernel
theorem dX12_isInside_15 : decode cX12_isInside 15 = .ok (.iaload, 1) := by decide +kernel
theorem dX12_isInside_16 : decode cX12_isInside 16 = .ok (.bipush 91, 2) := by decide +kernel
theorem dX12_isInside_18 : decode cX12_isInside 18 = .ok (.if_icmp .ne 5, 3) := by decide +kernel
theorem dX12_isInside_21 : decode cX12_isInside 21 = .ok (.iconst 1, 1) := by decide +kernel
theorem dX12_isInside_22 : decode cX12_isInside 22 = .ok (.ireturn, 1) := by decide +kernel
theorem dX12_isInside_23 : decode cX12_isInside 23 = .ok (.iinc 1 1, 3) := by decide +kernel
theorem dX12_isInside_26 : decode cX12_isInside 26 = .ok (.goto (-24), 3) := by decide +kernel
theorem dX12_isInside_29 : decode cX12_isInside 29 = .ok (.iconst 0, 1) := by decide +kernel
theorem dX12_isInside_30 : decode cX12_isInside 30 = .ok (.ireturn, 1) := by decide +kernel
def m_isInside_L2 (N : Nat) (M : jMem) (h2 : Int → Option Int) : Int → Option Int
  | x1 => (if x1 < (M 0 16) then jchk (0 ≤ x1 ∧ x1 < 400) <| (if (M 7 x1) = 91 then some 1 else h2 ((w32 (x1 + 1)))) else some 0)
def m_isInside (N : Nat) (M : jMem) : Option Int := jfix N (m_isInside_L2 N M) 0
theorem c_m_isInside {l : Launch} {g : jG} (N : Nat) (M : jMem)  : ∀ o, m_isInside N  M = some o → jCt l g jTM yX12_isInside cX12_isInside 2 (some .boolean) 0 1 [(2, 0)] M (o, M) := by
  refine jMet (own := RX12) (em := (fun r => (r, M))) (L := [(0, 2, 0)]) (by decide +kernel) rfl (Nat.le_of_ble_eq_true rfl) rfl (fun K hR => ?_)
  unfold m_isInside
  refine z_iconst (pc := 0) hR dX12_isInside_0 rfl ?_
  refine z_istore_n (pc := 1) hR (lv' := [(1, 0, 0), (0, 2, 0)]) dX12_isInside_1 rfl (by decide) rfl ?_
  refine z_pick (pc := 2) (lv' := [(0, 2, 0), (1, 0, 0)]) hR [1, 0] rfl ?_
  refine z_fix (σ := Int) (lv := fun s => [(0, 2, 0), (1, 0, s)]) (st := fun _ => []) (M := fun _ => M) (fun h2 hh2 => ?_) N 0
  intro x1
  show jZ K (fun r => (r, M)) 2 [(0, 2, 0), (1, 0, x1)] [] M _
  unfold m_isInside_L2
  refine z_iload_n (pc := 2) hR 1 dX12_isInside_2 rfl rfl ?_
  refine z_aload_n (pc := 3) hR 0 dX12_isInside_3 rfl rfl ?_
  refine z_geti (pc := 4) hR (j := 16) jf_RX12_164 kmo_0 (by decide) rfl rfl dX12_isInside_4 ?_
  refine z_icmpge (pc := 7) (tgt := 29) hR dX12_isInside_7 (by decide) ?_ ?_
  · refine z_iconst (pc := 29) hR dX12_isInside_29 rfl ?_
    exact z_zreturn (pc := 30) hR rfl rfl (Or.inl rfl) dX12_isInside_30 rfl
  · refine z_aload_n (pc := 10) hR 0 dX12_isInside_10 rfl rfl ?_
    refine z_getr (pc := 11) hR (c0 := 7) (r := 7) jf_RX12_29 kmo_0 (by decide) rfl rfl dX12_isInside_11 ?_
    refine z_iload_n (pc := 14) hR 1 dX12_isInside_14 rfl rfl ?_
    refine z_chk (fun hc2 => ?_)
    refine z_iald (pc := 15) hR (n := 400) kma_7 hc2.1 hc2.2 dX12_isInside_15 ?_
    refine z_bipush (pc := 16) hR dX12_isInside_16 rfl ?_
    refine z_icmpne (pc := 18) (tgt := 23) hR dX12_isInside_18 (by decide) ?_ ?_
    · refine z_iinc (pc := 23) hR (j := 1) (lv' := [(1, 0, (w32 (x1 + 1))), (0, 2, 0)]) dX12_isInside_23 rfl (by decide) rfl ?_
      refine z_goto (pc := 26) (tgt := 2) hR dX12_isInside_26 (by decide) ?_
      refine z_pick (pc := 2) (lv' := [(0, 2, 0), (1, 0, (w32 (x1 + 1)))]) hR [1, 0] rfl ?_
      exact hh2 ((w32 (x1 + 1)))
    · refine z_iconst (pc := 21) hR dX12_isInside_21 rfl ?_
      exact z_zreturn (pc := 22) hR rfl rfl (Or.inr rfl) dX12_isInside_22 rfl
theorem dX12_closes_0 : decode cX12_closes 0 = .ok (.aload_n 0, 1) := by decide +kernel
theorem dX12_closes_1 : decode cX12_closes 1 = .ok (.iconst 3, 1) := by decide +kernel
theorem dX12_closes_2 : decode cX12_closes 2 = .ok (.invokevirtual 203, 3) := by decide +kernel
theorem dX12_closes_5 : decode cX12_closes 5 = .ok (.aload_n 0, 1) := by decide +kernel
theorem dX12_closes_6 : decode cX12_closes 6 = .ok (.invokevirtual 102, 3) := by decide +kernel
theorem dX12_closes_9 : decode cX12_closes 9 = .ok (.bipush 93, 2) := by decide +kernel
theorem dX12_closes_11 : decode cX12_closes 11 = .ok (.if_icmp .ne 53, 3) := by decide +kernel
theorem dX12_closes_14 : decode cX12_closes 14 = .ok (.aload_n 0, 1) := by decide +kernel
theorem dX12_closes_15 : decode cX12_closes 15 = .ok (.invokevirtual 206, 3) := by decide +kernel
theorem dX12_closes_18 : decode cX12_closes 18 = .ok (.ifCond .eq 46, 3) := by decide +kernel
theorem dX12_closes_21 : decode cX12_closes 21 = .ok (.aload_n 0, 1) := by decide +kernel
theorem dX12_closes_22 : decode cX12_closes 22 = .ok (.iconst 1, 1) := by decide +kernel
theorem dX12_closes_23 : decode cX12_closes 23 = .ok (.invokevirtual 203, 3) := by decide +kernel
theorem dX12_closes_26 : decode cX12_closes 26 = .ok (.aload_n 0, 1) := by decide +kernel
theorem dX12_closes_27 : decode cX12_closes 27 = .ok (.dup, 1) := by decide +kernel
theorem dX12_closes_28 : decode cX12_closes 28 = .ok (.getfield 164, 3) := by decide +kernel
theorem dX12_closes_31 : decode cX12_closes 31 = .ok (.iconst 1, 1) := by decide +kernel
theorem dX12_closes_32 : decode cX12_closes 32 = .ok (.isub, 1) := by decide +kernel
theorem dX12_closes_33 : decode cX12_closes 33 = .ok (.putfield 164, 3) := by decide +kernel
theorem dX12_closes_36 : decode cX12_closes 36 = .ok (.aload_n 0, 1) := by decide +kernel
theorem dX12_closes_37 : decode cX12_closes 37 = .ok (.dup, 1) := by decide +kernel
theorem dX12_closes_38 : decode cX12_closes 38 = .ok (.getfield 161, 3) := by decide +kernel
theorem dX12_closes_41 : decode cX12_closes 41 = .ok (.iconst 1, 1) := by decide +kernel
theorem dX12_closes_42 : decode cX12_closes 42 = .ok (.isub, 1) := by decide +kernel
theorem dX12_closes_43 : decode cX12_closes 43 = .ok (.putfield 161, 3) := by decide +kernel
theorem dX12_closes_46 : decode cX12_closes 46 = .ok (.aload_n 0, 1) := by decide +kernel
theorem dX12_closes_47 : decode cX12_closes 47 = .ok (.dup, 1) := by decide +kernel
theorem dX12_closes_48 : decode cX12_closes 48 = .ok (.getfield 99, 3) := by decide +kernel
theorem dX12_closes_51 : decode cX12_closes 51 = .ok (.iconst 1, 1) := by decide +kernel
theorem dX12_closes_52 : decode cX12_closes 52 = .ok (.iadd, 1) := by decide +kernel
theorem dX12_closes_53 : decode cX12_closes 53 = .ok (.putfield 99, 3) := by decide +kernel
theorem dX12_closes_56 : decode cX12_closes 56 = .ok (.aload_n 0, 1) := by decide +kernel
theorem dX12_closes_57 : decode cX12_closes 57 = .ok (.iconst 3, 1) := by decide +kernel
theorem dX12_closes_58 : decode cX12_closes 58 = .ok (.invokevirtual 203, 3) := by decide +kernel
theorem dX12_closes_61 : decode cX12_closes 61 = .ok (.goto (-56), 3) := by decide +kernel
theorem dX12_closes_64 : decode cX12_closes 64 = .ok (.return_, 1) := by decide +kernel
def m_closes_L5 (N : Nat)  (h5 : jMem → Option (Int × jMem)) : jMem → Option (Int × jMem)
  | M2 => jb1 (m_see N M2) fun r3 M4 => (if r3 = 93 then (m_isInside N M4).bind fun r5 => (if r5 = 0 then some (0, M4) else jbv (m_layDown N 1 M4) fun M6 => jlt (up M6 0 16 ((w32 (((M6 0 16)) - 1)))) fun M7 => jlt (up M7 0 13 ((w32 (((M7 0 13)) - 1)))) fun M8 => jlt (up M8 0 8 ((w32 (((M8 0 8)) + 1)))) fun M9 => jbv (m_layDown N 3 M9) fun M10 => h5 M10) else some (0, M4))
def m_closes (N : Nat) (M : jMem) : Option (Int × jMem) := jbv (m_layDown N 3 M) fun M1 => jfix N (m_closes_L5 N) M1
theorem c_m_closes {l : Launch} {g : jG} (N : Nat) (M : jMem)  : ∀ o, m_closes N  M = some o → jCt l g jTM yX12_closes cX12_closes 1 none 3 5 [(2, 0)] M o := by
  refine jMet (own := RX12) (em := id) (L := [(0, 2, 0)]) (by decide +kernel) rfl (Nat.le_of_ble_eq_true rfl) rfl (fun K hR => ?_)
  unfold m_closes
  refine z_aload_n (pc := 0) hR 0 dX12_closes_0 rfl rfl ?_
  refine z_iconst (pc := 1) hR dX12_closes_1 rfl ?_
  refine z_callv0 (pc := 2) (rk' := 3) hR (As := [(0, 3)]) (st := []) jm_X12_layDown jl_RX12_203 kmo_0 (by decide) rfl (c_m_layDown N 3 M) rfl (by decide) (by decide) rfl (Nat.le_of_ble_eq_true rfl) dX12_closes_2 (fun M1 => ?_)
  refine z_fix (σ := jMem) (lv := fun s => [(0, 2, 0)]) (st := fun _ => []) (M := fun s => s) (fun h5 hh5 => ?_) N M1
  intro M2
  show jZ K id 5 [(0, 2, 0)] [] M2 _
  unfold m_closes_L5
  refine z_aload_n (pc := 5) hR 0 dX12_closes_5 rfl rfl ?_
  refine z_callv1 (pc := 6) hR (As := []) (st := []) jm_X12_see jl_RX12_102 kmo_0 (by decide) rfl (by decide) (c_m_see N M2) rfl (by decide) (by decide) rfl (Nat.le_of_ble_eq_true rfl) dX12_closes_6 (fun r3 M4 => ?_)
  refine z_bipush (pc := 9) hR dX12_closes_9 rfl ?_
  refine z_icmpne (pc := 11) (tgt := 64) hR dX12_closes_11 (by decide) ?_ ?_
  · exact z_return (x := 0) (pc := 64) hR rfl rfl dX12_closes_64 rfl
  · refine z_aload_n (pc := 14) hR 0 dX12_closes_14 rfl rfl ?_
    refine z_callvp (pc := 15) hR (As := []) (st := []) jm_X12_isInside jl_RX12_206 kmo_0 (by decide) rfl (by decide) (c_m_isInside N M4) rfl (by decide) (by decide) rfl (Nat.le_of_ble_eq_true rfl) dX12_closes_15 (fun r5 => ?_)
    refine z_ifeq (pc := 18) (tgt := 64) hR dX12_closes_18 (by decide) ?_ ?_
    · exact z_return (x := 0) (pc := 64) hR rfl rfl dX12_closes_64 rfl
    · refine z_aload_n (pc := 21) hR 0 dX12_closes_21 rfl rfl ?_
      refine z_iconst (pc := 22) hR dX12_closes_22 rfl ?_
      refine z_callv0 (pc := 23) (rk' := 3) hR (As := [(0, 1)]) (st := []) jm_X12_layDown jl_RX12_203 kmo_0 (by decide) rfl (c_m_layDown N 1 M4) rfl (by decide) (by decide) rfl (Nat.le_of_ble_eq_true rfl) dX12_closes_23 (fun M6 => ?_)
      refine z_aload_n (pc := 26) hR 0 dX12_closes_26 rfl rfl ?_
      refine z_dup (pc := 27) hR dX12_closes_27 (by decide) ?_
      refine z_geti (pc := 28) hR (j := 16) jf_RX12_164 kmo_0 (by decide) rfl rfl dX12_closes_28 ?_
      refine z_iconst (pc := 31) hR dX12_closes_31 rfl ?_
      refine z_isub (pc := 32) hR dX12_closes_32 ?_
      refine z_puti (pc := 33) hR (j := 16) jp_RX12_164 kmo_0 (by decide) rfl rfl rfl rfl dX12_closes_33 (fun M7 => ?_)
      refine z_aload_n (pc := 36) hR 0 dX12_closes_36 rfl rfl ?_
      refine z_dup (pc := 37) hR dX12_closes_37 (by decide) ?_
      refine z_geti (pc := 38) hR (j := 13) jf_RX12_161 kmo_0 (by decide) rfl rfl dX12_closes_38 ?_
      refine z_iconst (pc := 41) hR dX12_closes_41 rfl ?_
      refine z_isub (pc := 42) hR dX12_closes_42 ?_
      refine z_puti (pc := 43) hR (j := 13) jp_RX12_161 kmo_0 (by decide) rfl rfl rfl rfl dX12_closes_43 (fun M8 => ?_)
      refine z_aload_n (pc := 46) hR 0 dX12_closes_46 rfl rfl ?_
      refine z_dup (pc := 47) hR dX12_closes_47 (by decide) ?_
      refine z_geti (pc := 48) hR (j := 8) jf_RX12_99 kmo_0 (by decide) rfl rfl dX12_closes_48 ?_
      refine z_iconst (pc := 51) hR dX12_closes_51 rfl ?_
      refine z_iadd (pc := 52) hR dX12_closes_52 ?_
      refine z_puti (pc := 53) hR (j := 8) jp_RX12_99 kmo_0 (by decide) rfl rfl rfl rfl dX12_closes_53 (fun M9 => ?_)
      refine z_aload_n (pc := 56) hR 0 dX12_closes_56 rfl rfl ?_
      refine z_iconst (pc := 57) hR dX12_closes_57 rfl ?_
      refine z_callv0 (pc := 58) (rk' := 3) hR (As := [(0, 3)]) (st := []) jm_X12_layDown jl_RX12_203 kmo_0 (by decide) rfl (c_m_layDown N 3 M9) rfl (by decide) (by decide) rfl (Nat.le_of_ble_eq_true rfl) dX12_closes_58 (fun M10 => ?_)
      refine z_goto (pc := 61) (tgt := 5) hR dX12_closes_61 (by decide) ?_
      exact hh5 M10
