theorem dX12_canBe_0 : decode cX12_canBe 0 = .ok (.aload_n 0, 1) := by decide +kernel
theorem dX12_canBe_1 : decode cX12_canBe 1 = .ok (.getfield 39, 3) := by decide +kernel
theorem dX12_canBe_4 : decode cX12_canBe 4 = .ok (.iload_n 1, 1) := by decide +kernel
theorem dX12_canBe_5 : decode cX12_canBe 5 = .ok (.iaload, 1) := by decide +kernel
theorem dX12_canBe_6 : decode cX12_canBe 6 = .ok (.istore 5, 2) := by decide +kernel
theorem dX12_canBe_8 : decode cX12_canBe 8 = .ok (.iconst 0, 1) := by decide +kernel
theorem dX12_canBe_9 : decode cX12_canBe 9 = .ok (.istore 6, 2) := by decide +kernel
theorem dX12_canBe_11 : decode cX12_canBe 11 = .ok (.bipush (-2), 2) := by decide +kernel
theorem dX12_canBe_13 : decode cX12_canBe 13 = .ok (.istore 7, 2) := by decide +kernel
theorem dX12_canBe_15 : decode cX12_canBe 15 = .ok (.aload_n 0, 1) := by decide +kernel
theorem dX12_canBe_16 : decode cX12_canBe 16 = .ok (.invokevirtual 415, 3) := by decide +kernel
theorem dX12_canBe_19 : decode cX12_canBe 19 = .ok (.iload_n 3, 1) := by decide +kernel
theorem dX12_canBe_20 : decode cX12_canBe 20 = .ok (.istore 8, 2) := by decide +kernel
theorem dX12_canBe_22 : decode cX12_canBe 22 = .ok (.iload 8, 2) := by decide +kernel
theorem dX12_canBe_24 : decode cX12_canBe 24 = .ok (.iload_n 2, 1) := by decide +kernel
theorem dX12_canBe_25 : decode cX12_canBe 25 = .ok (.if_icmp .lt 40, 3) := by decide +kernel
theorem dX12_canBe_28 : decode cX12_canBe 28 = .ok (.aload_n 0, 1) := by decide +kernel
theorem dX12_canBe_29 : decode cX12_canBe 29 = .ok (.getfield 39, 3) := by decide +kernel
theorem dX12_canBe_32 : decode cX12_canBe 32 = .ok (.iload_n 1, 1) := by decide +kernel
theorem dX12_canBe_33 : decode cX12_canBe 33 = .ok (.iload 8, 2) := by decide +kernel
theorem dX12_canBe_35 : decode cX12_canBe 35 = .ok (.iastore, 1) := by decide +kernel
theorem dX12_canBe_36 : decode cX12_canBe 36 = .ok (.aload_n 0, 1) := by decide +kernel
theorem dX12_canBe_37 : decode cX12_canBe 37 = .ok (.invokevirtual 274, 3) := by decide +kernel
theorem dX12_canBe_40 : decode cX12_canBe 40 = .ok (.aload_n 0, 1) := by decide +kernel
theorem dX12_canBe_41 : decode cX12_canBe 41 = .ok (.iconst 0, 1) := by decide +kernel
theorem dX12_canBe_42 : decode cX12_canBe 42 = .ok (.iconst (-1), 1) := by decide +kernel
theorem dX12_canBe_43 : decode cX12_canBe 43 = .ok (.invokevirtual 461, 3) := by decide +kernel
theorem dX12_canBe_46 : decode cX12_canBe 46 = .ok (.ifCond .ne 6, 3) := by decide +kernel
theorem dX12_canBe_49 : decode cX12_canBe 49 = .ok (.goto 10, 3) := by decide +kernel
theorem dX12_canBe_52 : decode cX12_canBe 52 = .ok (.iload 8, 2) := by decide +kernel
theorem dX12_canBe_54 : decode cX12_canBe 54 = .ok (.istore 7, 2) := by decide +kernel
theorem dX12_canBe_56 : decode cX12_canBe 56 = .ok (.iinc 6 1, 3) := by decide +kernel
theorem dX12_canBe_59 : decode cX12_canBe 59 = .ok (.iinc 8 (-1), 3) := by decide +kernel
theorem dX12_canBe_62 : decode cX12_canBe 62 = .ok (.goto (-40), 3) := by decide +kernel
theorem dX12_canBe_65 : decode cX12_canBe 65 = .ok (.aload_n 0, 1) := by decide +kernel
theorem dX12_canBe_66 : decode cX12_canBe 66 = .ok (.getfield 39, 3) := by decide +kernel
theorem dX12_canBe_69 : decode cX12_canBe 69 = .ok (.iload_n 1, 1) := by decide +kernel
theorem dX12_canBe_70 : decode cX12_canBe 70 = .ok (.iload 5, 2) := by decide +kernel
theorem dX12_canBe_72 : decode cX12_canBe 72 = .ok (.iastore, 1) := by decide +kernel
theorem dX12_canBe_73 : decode cX12_canBe 73 = .ok (.aload_n 0, 1) := by decide +kernel
theorem dX12_canBe_74 : decode cX12_canBe 74 = .ok (.invokevirtual 424, 3) := by decide +kernel
theorem dX12_canBe_77 : decode cX12_canBe 77 = .ok (.iload 4, 2) := by decide +kernel
theorem dX12_canBe_79 : decode cX12_canBe 79 = .ok (.ifCond .ne 8, 3) := by decide +kernel
theorem dX12_canBe_82 : decode cX12_canBe 82 = .ok (.iload 6, 2) := by decide +kernel
theorem dX12_canBe_84 : decode cX12_canBe 84 = .ok (.goto 5, 3) := by decide +kernel
theorem dX12_canBe_87 : decode cX12_canBe 87 = .ok (.iload 7, 2) := by decide +kernel
theorem dX12_canBe_89 : decode cX12_canBe 89 = .ok (.ireturn, 1) := by decide +kernel
def m_canBe_L22 (N : Nat) (a1 : Int) (a2 : Int) (a4 : Int) (v2 : Int) (h22 : (Int × Int × Int × jMem) → Option (Int × jMem)) : Int × Int × Int × jMem → Option (Int × jMem)
  | (x4, x5, x6, M7) => (if x6 < a2 then jchk (0 ≤ a1 ∧ a1 < 112) <| jlt (up M7 10 a1 v2) fun M9 => jbv (m_laysBack N M9) fun M10 => (if a4 = 0 then some (x4, M10) else some (x5, M10)) else jchk (0 ≤ a1 ∧ a1 < 112) <| jlt (up M7 10 a1 x6) fun M12 => jbv (m_begins N M12) fun M13 => jb1 (m_areAllSo N 0 ((-1)) M13) fun r14 M15 => (if r14 = 0 then h22 (x4, x5, (w32 (x6 + (-1))), M15) else h22 ((w32 (x4 + 1)), x6, (w32 (x6 + (-1))), M15)))
def m_canBe (N : Nat) (a1 a2 a3 a4 : Int) (M : jMem) : Option (Int × jMem) := jchk (0 ≤ a1 ∧ a1 < 112) <| jlt ((M 10 a1)) fun v2 => jbv (m_keeps N M) fun M3 => jfix N (m_canBe_L22 N a1 a2 a4 v2) (0, (-2), a3, M3)
theorem c_m_canBe {l : Launch} {g : jG} (N : Nat) (a1 a2 a3 a4 : Int) (M : jMem)  : ∀ o, m_canBe N a1 a2 a3 a4 M = some o → jCt l g jTM yX12_canBe cX12_canBe 9 (some .int) 0 15 [(2, 0), (0, a1), (0, a2), (0, a3), (0, a4)] M o := by
  refine jMet (own := RX12) (em := id) (L := [(0, 2, 0), (1, 0, a1), (2, 0, a2), (3, 0, a3), (4, 0, a4)]) (by decide +kernel) rfl (Nat.le_of_ble_eq_true rfl) rfl (fun K hR => ?_)
  unfold m_canBe
  refine z_aload_n (pc := 0) hR 0 dX12_canBe_0 rfl rfl ?_
  refine z_getr (pc := 1) hR (c0 := 10) (r := 10) jf_RX12_39 kmo_0 (by decide) rfl rfl dX12_canBe_1 ?_
  refine z_iload_n (pc := 4) hR 1 dX12_canBe_4 rfl rfl ?_
  refine z_chk (fun hc1 => ?_)
  refine z_iald (pc := 5) hR (n := 112) kma_10 hc1.1 hc1.2 dX12_canBe_5 ?_
  refine z_let1 (fun v2 => ?_)
  refine z_istore (pc := 6) hR (lv' := [(5, 0, v2), (0, 2, 0), (1, 0, a1), (2, 0, a2), (3, 0, a3), (4, 0, a4)]) dX12_canBe_6 (by decide) rfl ?_
  refine z_iconst (pc := 8) hR dX12_canBe_8 rfl ?_
  refine z_istore (pc := 9) hR (lv' := [(6, 0, 0), (5, 0, v2), (0, 2, 0), (1, 0, a1), (2, 0, a2), (3, 0, a3), (4, 0, a4)]) dX12_canBe_9 (by decide) rfl ?_
  refine z_bipush (pc := 11) hR dX12_canBe_11 rfl ?_
  refine z_istore (pc := 13) hR (lv' := [(7, 0, (-2)), (6, 0, 0), (5, 0, v2), (0, 2, 0), (1, 0, a1), (2, 0, a2), (3, 0, a3), (4, 0, a4)]) dX12_canBe_13 (by decide) rfl ?_
  refine z_aload_n (pc := 15) hR 3 dX12_canBe_15 rfl rfl ?_
  refine z_callv0 (pc := 16) (rk' := 3) hR (As := []) (st := []) jm_X12_keeps jl_RX12_415 kmo_0 (by decide) rfl (c_m_keeps N M) rfl (by decide) (by decide) rfl (Nat.le_of_ble_eq_true rfl) dX12_canBe_16 (fun M3 => ?_)
  refine z_iload_n (pc := 19) hR 6 dX12_canBe_19 rfl rfl ?_
  refine z_istore (pc := 20) hR (lv' := [(8, 0, a3), (7, 0, (-2)), (6, 0, 0), (5, 0, v2), (0, 2, 0), (1, 0, a1), (2, 0, a2), (3, 0, a3), (4, 0, a4)]) dX12_canBe_20 (by decide) rfl ?_
  refine z_pick (pc := 22) (lv' := [(0, 2, 0), (1, 0, a1), (2, 0, a2), (4, 0, a4), (5, 0, v2), (6, 0, 0), (7, 0, (-2)), (8, 0, a3)]) hR [4, 5, 6, 8, 3, 2, 1, 0] rfl ?_
  refine z_fix (σ := Int × Int × Int × jMem) (lv := fun s => [(0, 2, 0), (1, 0, a1), (2, 0, a2), (4, 0, a4), (5, 0, v2), (6, 0, s.1), (7, 0, s.2.1), (8, 0, s.2.2.1)]) (st := fun _ => []) (M := fun s => s.2.2.2) (fun h22 hh22 => ?_) N (0, (-2), a3, M3)
  rintro ⟨x4, x5, x6, M7⟩
  show jZ K id 22 [(0, 2, 0), (1, 0, a1), (2, 0, a2), (4, 0, a4), (5, 0, v2), (6, 0, x4), (7, 0, x5), (8, 0, x6)] [] M7 _
  unfold m_canBe_L22
  refine z_iload (pc := 22) hR 7 dX12_canBe_22 rfl ?_
  refine z_iload_n (pc := 24) hR 2 dX12_canBe_24 rfl rfl ?_
  refine z_icmplt (pc := 25) (tgt := 65) hR dX12_canBe_25 (by decide) ?_ ?_
  · refine z_aload_n (pc := 65) hR 0 dX12_canBe_65 rfl rfl ?_
    refine z_getr (pc := 66) hR (c0 := 10) (r := 10) jf_RX12_39 kmo_0 (by decide) rfl rfl dX12_canBe_66 ?_
    refine z_iload_n (pc := 69) hR 1 dX12_canBe_69 rfl rfl ?_
    refine z_iload (pc := 70) hR 4 dX12_canBe_70 rfl ?_
    refine z_chk (fun hc8 => ?_)
    refine z_iast (pc := 72) hR (n := 112) kma_10 hc8.1 hc8.2 dX12_canBe_72 (fun M9 => ?_)
    refine z_aload_n (pc := 73) hR 0 dX12_canBe_73 rfl rfl ?_
    refine z_callv0 (pc := 74) (rk' := 3) hR (As := []) (st := []) jm_X12_laysBack jl_RX12_424 kmo_0 (by decide) rfl (c_m_laysBack N M9) rfl (by decide) (by decide) rfl (Nat.le_of_ble_eq_true rfl) dX12_canBe_74 (fun M10 => ?_)
    refine z_iload (pc := 77) hR 3 dX12_canBe_77 rfl ?_
    refine z_ifne (pc := 79) (tgt := 87) hR dX12_canBe_79 (by decide) ?_ ?_
    · refine z_iload (pc := 87) hR 6 dX12_canBe_87 rfl ?_
      exact z_ireturn (pc := 89) hR rfl rfl dX12_canBe_89 rfl
    · refine z_iload (pc := 82) hR 5 dX12_canBe_82 rfl ?_
      refine z_goto (pc := 84) (tgt := 89) hR dX12_canBe_84 (by decide) ?_
      exact z_ireturn (pc := 89) hR rfl rfl dX12_canBe_89 rfl
  · refine z_aload_n (pc := 28) hR 0 dX12_canBe_28 rfl rfl ?_
    refine z_getr (pc := 29) hR (c0 := 10) (r := 10) jf_RX12_39 kmo_0 (by decide) rfl rfl dX12_canBe_29 ?_
    refine z_iload_n (pc := 32) hR 1 dX12_canBe_32 rfl rfl ?_
    refine z_iload (pc := 33) hR 7 dX12_canBe_33 rfl ?_
    refine z_chk (fun hc11 => ?_)
    refine z_iast (pc := 35) hR (n := 112) kma_10 hc11.1 hc11.2 dX12_canBe_35 (fun M12 => ?_)
    refine z_aload_n (pc := 36) hR 0 dX12_canBe_36 rfl rfl ?_
    refine z_callv0 (pc := 37) (rk' := 3) hR (As := []) (st := []) jm_X12_begins jl_RX12_274 kmo_0 (by decide) rfl (c_m_begins N M12) rfl (by decide) (by decide) rfl (Nat.le_of_ble_eq_true rfl) dX12_canBe_37 (fun M13 => ?_)
    refine z_aload_n (pc := 40) hR 0 dX12_canBe_40 rfl rfl ?_
    refine z_iconst (pc := 41) hR dX12_canBe_41 rfl ?_
    refine z_iconst (pc := 42) hR dX12_canBe_42 rfl ?_
    refine z_callv1 (pc := 43) hR (As := [(0, 0), (0, (-1))]) (st := []) jm_X12_areAllSo jl_RX12_461 kmo_0 (by decide) rfl (by decide) (c_m_areAllSo N 0 ((-1)) M13) rfl (by decide) (by decide) rfl (Nat.le_of_ble_eq_true rfl) dX12_canBe_43 (fun r14 M15 => ?_)
    refine z_ifne (pc := 46) (tgt := 52) hR dX12_canBe_46 (by decide) ?_ ?_
    · refine z_iload (pc := 52) hR 7 dX12_canBe_52 rfl ?_
      refine z_istore (pc := 54) hR (lv' := [(7, 0, x6), (0, 2, 0), (1, 0, a1), (2, 0, a2), (4, 0, a4), (5, 0, v2), (6, 0, x4), (8, 0, x6)]) dX12_canBe_54 (by decide) rfl ?_
      refine z_iinc (pc := 56) hR (j := 6) (lv' := [(6, 0, (w32 (x4 + 1))), (7, 0, x6), (0, 2, 0), (1, 0, a1), (2, 0, a2), (4, 0, a4), (5, 0, v2), (8, 0, x6)]) dX12_canBe_56 rfl (by decide) rfl ?_
      refine z_iinc (pc := 59) hR (j := 7) (lv' := [(8, 0, (w32 (x6 + (-1)))), (6, 0, (w32 (x4 + 1))), (7, 0, x6), (0, 2, 0), (1, 0, a1), (2, 0, a2), (4, 0, a4), (5, 0, v2)]) dX12_canBe_59 rfl (by decide) rfl ?_
      refine z_goto (pc := 62) (tgt := 22) hR dX12_canBe_62 (by decide) ?_
      refine z_pick (pc := 22) (lv' := [(0, 2, 0), (1, 0, a1), (2, 0, a2), (4, 0, a4), (5, 0, v2), (6, 0, (w32 (x4 + 1))), (7, 0, x6), (8, 0, (w32 (x6 + (-1))))]) hR [3, 4, 5, 6, 7, 1, 2, 0] rfl ?_
      exact hh22 ((w32 (x4 + 1)), x6, (w32 (x6 + (-1))), M15)
    · refine z_goto (pc := 49) (tgt := 59) hR dX12_canBe_49 (by decide) ?_
      refine z_iinc (pc := 59) hR (j := 7) (lv' := [(8, 0, (w32 (x6 + (-1)))), (0, 2, 0), (1, 0, a1), (2, 0, a2), (4, 0, a4), (5, 0, v2), (6, 0, x4), (7, 0, x5)]) dX12_canBe_59 rfl (by decide) rfl ?_
      refine z_goto (pc := 62) (tgt := 22) hR dX12_canBe_62 (by decide) ?_
      refine z_pick (pc := 22) (lv' := [(0, 2, 0), (1, 0, a1), (2, 0, a2), (4, 0, a4), (5, 0, v2), (6, 0, x4), (7, 0, x5), (8, 0, (w32 (x6 + (-1))))]) hR [1, 2, 3, 4, 5, 6, 7, 0] rfl ?_
      exact hh22 (x4, x5, (w32 (x6 + (-1))), M15)
theorem dX12_depths_0 : decode cX12_depths 0 = .ok (.aload_n 0, 1) := by decide +kernel
theorem dX12_depths_1 : decode cX12_depths 1 = .ok (.iload_n 1, 1) := by decide +kernel
theorem dX12_depths_2 : decode cX12_depths 2 = .ok (.invokevirtual 298, 3) := by decide +kernel
theorem dX12_depths_5 : decode cX12_depths 5 = .ok (.ifCond .eq 28, 3) := by decide +kernel
theorem dX12_depths_8 : decode cX12_depths 8 = .ok (.iload_n 2, 1) := by decide +kernel
theorem dX12_depths_9 : decode cX12_depths 9 = .ok (.i2l, 1) := by decide +kernel
theorem dX12_depths_10 : decode cX12_depths 10 = .ok (.lconst 0, 1) := by decide +kernel
theorem dX12_depths_11 : decode cX12_depths 11 = .ok (.lconst 1, 1) := by decide +kernel
theorem dX12_depths_12 : decode cX12_depths 12 = .ok (.invokestatic 127, 3) := by decide +kernel
theorem dX12_depths_15 : decode cX12_depths 15 = .ok (.ifCond .eq 18, 3) := by decide +kernel
theorem dX12_depths_18 : decode cX12_depths 18 = .ok (.aload_n 0, 1) := by decide +kernel
theorem dX12_depths_19 : decode cX12_depths 19 = .ok (.bipush 60, 2) := by decide +kernel
theorem dX12_depths_21 : decode cX12_depths 21 = .ok (.iload_n 1, 1) := by decide +kernel
theorem dX12_depths_22 : decode cX12_depths 22 = .ok (.iadd, 1) := by decide +kernel
theorem dX12_depths_23 : decode cX12_depths 23 = .ok (.iconst 1, 1) := by decide +kernel
theorem dX12_depths_24 : decode cX12_depths 24 = .ok (.bipush 30, 2) := by decide +kernel
theorem dX12_depths_26 : decode cX12_depths 26 = .ok (.iload_n 2, 1) := by decide +kernel
theorem dX12_depths_27 : decode cX12_depths 27 = .ok (.invokevirtual 470, 3) := by decide +kernel
theorem dX12_depths_30 : decode cX12_depths 30 = .ok (.goto 4, 3) := by decide +kernel
theorem dX12_depths_33 : decode cX12_depths 33 = .ok (.iconst (-1), 1) := by decide +kernel
theorem dX12_depths_34 : decode cX12_depths 34 = .ok (.ireturn, 1) := by decide +kernel
def m_depths (N : Nat) (a1 a2 : Int) (M : jMem) : Option (Int × jMem) := (m_isOne N a1 M).bind fun r1 => (if r1 = 0 then some ((-1), M) else (m_in N a2 0 1 M).bind fun r2 => (if r2 = 0 then some ((-1), M) else jb1 (m_canBe N ((w32 (60 + a1))) 1 30 a2 M) fun r3 M4 => some (r3, M4)))
theorem c_m_depths {l : Launch} {g : jG} (N : Nat) (a1 a2 : Int) (M : jMem)  : ∀ o, m_depths N a1 a2 M = some o → jCt l g jTM yX12_depths cX12_depths 3 (some .int) 0 17 [(2, 0), (0, a1), (0, a2)] M o := by
  refine jMet (own := RX12) (em := id) (L := [(0, 2, 0), (1, 0, a1), (2, 0, a2)]) (by decide +kernel) rfl (Nat.le_of_ble_eq_true rfl) rfl (fun K hR => ?_)
  unfold m_depths
  refine z_aload_n (pc := 0) hR 0 dX12_depths_0 rfl rfl ?_
  refine z_iload_n (pc := 1) hR 1 dX12_depths_1 rfl rfl ?_
  refine z_callvp (pc := 2) hR (As := [(0, a1)]) (st := []) jm_X12_isOne jl_RX12_298 kmo_0 (by decide) rfl (by decide) (c_m_isOne N a1 M) rfl (by decide) (by decide) rfl (Nat.le_of_ble_eq_true rfl) dX12_depths_2 (fun r1 => ?_)
  refine z_ifeq (pc := 5) (tgt := 33) hR dX12_depths_5 (by decide) ?_ ?_
  · refine z_iconst (pc := 33) hR dX12_depths_33 rfl ?_
    exact z_ireturn (pc := 34) hR rfl rfl dX12_depths_34 rfl
  · refine z_iload_n (pc := 8) hR 2 dX12_depths_8 rfl rfl ?_
    refine z_i2l (pc := 9) hR dX12_depths_9 ?_
    refine z_lconst (pc := 10) hR (x := 0) dX12_depths_10 rfl ?_
    refine z_lconst (pc := 11) hR (x := 1) dX12_depths_11 rfl ?_
    refine z_callsp (pc := 12) hR (As := [(1, a2), (1, 0), (1, 1)]) (st := []) jm_X12_in jl_RX12_127 (by decide) (c_m_in N a2 0 1 M) rfl (by decide) (by decide) rfl (Nat.le_of_ble_eq_true rfl) dX12_depths_12 (fun r2 => ?_)
    refine z_ifeq (pc := 15) (tgt := 33) hR dX12_depths_15 (by decide) ?_ ?_
    · refine z_iconst (pc := 33) hR dX12_depths_33 rfl ?_
      exact z_ireturn (pc := 34) hR rfl rfl dX12_depths_34 rfl
    · refine z_aload_n (pc := 18) hR 0 dX12_depths_18 rfl rfl ?_
      refine z_bipush (pc := 19) hR dX12_depths_19 rfl ?_
      refine z_iload_n (pc := 21) hR 1 dX12_depths_21 rfl rfl ?_
      refine z_iadd (pc := 22) hR dX12_depths_22 ?_
      refine z_iconst (pc := 23) hR dX12_depths_23 rfl ?_
      refine z_bipush (pc := 24) hR dX12_depths_24 rfl ?_
      refine z_iload_n (pc := 26) hR 2 dX12_depths_26 rfl rfl ?_
      refine z_callv1 (pc := 27) hR (As := [(0, (w32 (60 + a1))), (0, 1), (0, 30), (0, a2)]) (st := []) jm_X12_canBe jl_RX12_470 kmo_0 (by decide) rfl (by decide) (c_m_canBe N ((w32 (60 + a1))) 1 30 a2 M) rfl (by decide) (by decide) rfl (Nat.le_of_ble_eq_true rfl) dX12_depths_27 (fun r3 M4 => ?_)
      refine z_goto (pc := 30) (tgt := 34) hR dX12_depths_30 (by decide) ?_
      exact z_ireturn (pc := 34) hR rfl rfl dX12_depths_34 rfl
theorem dX12_tastes_0 : decode cX12_tastes 0 = .ok (.aload_n 0, 1) := by decide +kernel
theorem dX12_tastes_1 : decode cX12_tastes 1 = .ok (.iload_n 1, 1) := by decide +kernel
theorem dX12_tastes_2 : decode cX12_tastes 2 = .ok (.invokevirtual 298, 3) := by decide +kernel
theorem dX12_tastes_5 : decode cX12_tastes 5 = .ok (.ifCond .eq 28, 3) := by decide +kernel
theorem dX12_tastes_8 : decode cX12_tastes 8 = .ok (.iload_n 2, 1) := by decide +kernel
theorem dX12_tastes_9 : decode cX12_tastes 9 = .ok (.i2l, 1) := by decide +kernel
theorem dX12_tastes_10 : decode cX12_tastes 10 = .ok (.lconst 0, 1) := by decide +kernel
theorem dX12_tastes_11 : decode cX12_tastes 11 = .ok (.lconst 1, 1) := by decide +kernel
theorem dX12_tastes_12 : decode cX12_tastes 12 = .ok (.invokestatic 127, 3) := by decide +kernel
theorem dX12_tastes_15 : decode cX12_tastes 15 = .ok (.ifCond .eq 18, 3) := by decide +kernel
theorem dX12_tastes_18 : decode cX12_tastes 18 = .ok (.aload_n 0, 1) := by decide +kernel
theorem dX12_tastes_19 : decode cX12_tastes 19 = .ok (.bipush 67, 2) := by decide +kernel
theorem dX12_tastes_21 : decode cX12_tastes 21 = .ok (.iload_n 1, 1) := by decide +kernel
theorem dX12_tastes_22 : decode cX12_tastes 22 = .ok (.iadd, 1) := by decide +kernel
theorem dX12_tastes_23 : decode cX12_tastes 23 = .ok (.iconst 0, 1) := by decide +kernel
theorem dX12_tastes_24 : decode cX12_tastes 24 = .ok (.bipush 60, 2) := by decide +kernel
theorem dX12_tastes_26 : decode cX12_tastes 26 = .ok (.iload_n 2, 1) := by decide +kernel
theorem dX12_tastes_27 : decode cX12_tastes 27 = .ok (.invokevirtual 470, 3) := by decide +kernel
theorem dX12_tastes_30 : decode cX12_tastes 30 = .ok (.goto 4, 3) := by decide +kernel
theorem dX12_tastes_33 : decode cX12_tastes 33 = .ok (.iconst (-1), 1) := by decide +kernel
theorem dX12_tastes_34 : decode cX12_tastes 34 = .ok (.ireturn, 1) := by decide +kernel
def m_tastes (N : Nat) (a1 a2 : Int) (M : jMem) : Option (Int × jMem) := (m_isOne N a1 M).bind fun r1 => (if r1 = 0 then some ((-1), M) else (m_in N a2 0 1 M).bind fun r2 => (if r2 = 0 then some ((-1), M) else jb1 (m_canBe N ((w32 (67 + a1))) 0 60 a2 M) fun r3 M4 => some (r3, M4)))
theorem c_m_tastes {l : Launch} {g : jG} (N : Nat) (a1 a2 : Int) (M : jMem)  : ∀ o, m_tastes N a1 a2 M = some o → jCt l g jTM yX12_tastes cX12_tastes 3 (some .int) 0 17 [(2, 0), (0, a1), (0, a2)] M o := by
  refine jMet (own := RX12) (em := id) (L := [(0, 2, 0), (1, 0, a1), (2, 0, a2)]) (by decide +kernel) rfl (Nat.le_of_ble_eq_true rfl) rfl (fun K hR => ?_)
  unfold m_tastes
  refine z_aload_n (pc := 0) hR 0 dX12_tastes_0 rfl rfl ?_
  refine z_iload_n (pc := 1) hR 1 dX12_tastes_1 rfl rfl ?_
  refine z_callvp (pc := 2) hR (As := [(0, a1)]) (st := []) jm_X12_isOne jl_RX12_298 kmo_0 (by decide) rfl (by decide) (c_m_isOne N a1 M) rfl (by decide) (by decide) rfl (Nat.le_of_ble_eq_true rfl) dX12_tastes_2 (fun r1 => ?_)
  refine z_ifeq (pc := 5) (tgt := 33) hR dX12_tastes_5 (by decide) ?_ ?_
  · refine z_iconst (pc := 33) hR dX12_tastes_33 rfl ?_
    exact z_ireturn (pc := 34) hR rfl rfl dX12_tastes_34 rfl
  · refine z_iload_n (pc := 8) hR 2 dX12_tastes_8 rfl rfl ?_
    refine z_i2l (pc := 9) hR dX12_tastes_9 ?_
    refine z_lconst (pc := 10) hR (x := 0) dX12_tastes_10 rfl ?_
    refine z_lconst (pc := 11) hR (x := 1) dX12_tastes_11 rfl ?_
    refine z_callsp (pc := 12) hR (As := [(1, a2), (1, 0), (1, 1)]) (st := []) jm_X12_in jl_RX12_127 (by decide) (c_m_in N a2 0 1 M) rfl (by decide) (by decide) rfl (Nat.le_of_ble_eq_true rfl) dX12_tastes_12 (fun r2 => ?_)
    refine z_ifeq (pc := 15) (tgt := 33) hR dX12_tastes_15 (by decide) ?_ ?_
    · refine z_iconst (pc := 33) hR dX12_tastes_33 rfl ?_
      exact z_ireturn (pc := 34) hR rfl rfl dX12_tastes_34 rfl
    · refine z_aload_n (pc := 18) hR 0 dX12_tastes_18 rfl rfl ?_
      refine z_bipush (pc := 19) hR dX12_tastes_19 rfl ?_
      refine z_iload_n (pc := 21) hR 1 dX12_tastes_21 rfl rfl ?_
      refine z_iadd (pc := 22) hR dX12_tastes_22 ?_
      refine z_iconst (pc := 23) hR dX12_tastes_23 rfl ?_
      refine z_bipush (pc := 24) hR dX12_tastes_24 rfl ?_
      refine z_iload_n (pc := 26) hR 2 dX12_tastes_26 rfl rfl ?_
      refine z_callv1 (pc := 27) hR (As := [(0, (w32 (67 + a1))), (0, 0), (0, 60), (0, a2)]) (st := []) jm_X12_canBe jl_RX12_470 kmo_0 (by decide) rfl (by decide) (c_m_canBe N ((w32 (67 + a1))) 0 60 a2 M) rfl (by decide) (by decide) rfl (Nat.le_of_ble_eq_true rfl) dX12_tastes_27 (fun r3 M4 => ?_)
      refine z_goto (pc := 30) (tgt := 34) hR dX12_tastes_30 (by decide) ?_
      exact z_ireturn (pc := 34) hR rfl rfl dX12_tastes_34 rfl
theorem dX12_seed_0 : decode cX12_seed 0 = .ok (.iload_n 1, 1) := by decide +kernel
theorem dX12_seed_1 : decode cX12_seed 1 = .ok (.ifCond .ge 5, 3) := by decide +kernel
theorem dX12_seed_4 : decode cX12_seed 4 = .ok (.iconst (-1), 1) := by decide +kernel
theorem dX12_seed_5 : decode cX12_seed 5 = .ok (.ireturn, 1) := by decide +kernel
theorem dX12_seed_6 : decode cX12_seed 6 = .ok (.aload_n 0, 1) := by decide +kernel
theorem dX12_seed_7 : decode cX12_seed 7 = .ok (.getfield 474, 3) := by decide +kernel
theorem dX12_seed_10 : decode cX12_seed 10 = .ok (.istore_n 2, 1) := by decide +kernel
theorem dX12_seed_11 : decode cX12_seed 11 = .ok (.aload_n 0, 1) := by decide +kernel
theorem dX12_seed_12 : decode cX12_seed 12 = .ok (.iload_n 1, 1) := by decide +kernel
theorem dX12_seed_13 : decode cX12_seed 13 = .ok (.putfield 474, 3) := by decide +kernel
theorem dX12_seed_16 : decode cX12_seed 16 = .ok (.iload_n 2, 1) := by decide +kernel
theorem dX12_seed_17 : decode cX12_seed 17 = .ok (.ireturn, 1) := by decide +kernel
def m_seed (N : Nat) (a1 : Int) (M : jMem) : Option (Int × jMem) := (if a1 < 0 then some ((-1), M) else jlt ((M 0 22)) fun v1 => jlt (up M 0 22 a1) fun M2 => some (v1, M2))
theorem c_m_seed {l : Launch} {g : jG} (N : Nat) (a1 : Int) (M : jMem)  : ∀ o, m_seed N a1 M = some o → jCt l g jTM yX12_seed cX12_seed 3 (some .int) 0 1 [(2, 0), (0, a1)] M o := by
  refine jMet (own := RX12) (em := id) (L := [(0, 2, 0), (1, 0, a1)]) (by decide +kernel) rfl (Nat.le_of_ble_eq_true rfl) rfl (fun K hR => ?_)
  unfold m_seed
  refine z_iload_n (pc := 0) hR 1 dX12_seed_0 rfl rfl ?_
  refine z_ifge (pc := 1) (tgt := 6) hR dX12_seed_1 (by decide) ?_ ?_
  · refine z_aload_n (pc := 6) hR 0 dX12_seed_6 rfl rfl ?_
    refine z_geti (pc := 7) hR (j := 22) jf_RX12_474 kmo_0 (by decide) rfl rfl dX12_seed_7 ?_
    refine z_let1 (fun v1 => ?_)
    refine z_istore_n (pc := 10) hR (lv' := [(2, 0, v1), (0, 2, 0), (1, 0, a1)]) dX12_seed_10 rfl (by decide) rfl ?_
    refine z_aload_n (pc := 11) hR 1 dX12_seed_11 rfl rfl ?_
    refine z_iload_n (pc := 12) hR 2 dX12_seed_12 rfl rfl ?_
    refine z_puti (pc := 13) hR (j := 22) jp_RX12_474 kmo_0 (by decide) rfl rfl rfl rfl dX12_seed_13 (fun M2 => ?_)
    refine z_iload_n (pc := 16) hR 0 dX12_seed_16 rfl rfl ?_
    exact z_ireturn (pc := 17) hR rfl rfl dX12_seed_17 rfl
  · refine z_iconst (pc := 4) hR dX12_seed_4 rfl ?_
    exact z_ireturn (pc := 5) hR rfl rfl dX12_seed_5 rfl
theorem dX12_draw_0 : decode cX12_draw 0 = .ok (.aload_n 0, 1) := by decide +kernel
theorem dX12_draw_1 : decode cX12_draw 1 = .ok (.aload_n 0, 1) := by decide +kernel
theorem dX12_draw_2 : decode cX12_draw 2 = .ok (.getfield 477, 3) := by decide +kernel
theorem dX12_draw_5 : decode cX12_draw 5 = .ok (.ldc2_w 481, 3) := by decide +kernel
theorem dX12_draw_8 : decode cX12_draw 8 = .ok (.lmul, 1) := by decide +kernel
theorem dX12_draw_9 : decode cX12_draw 9 = .ok (.ldc2_w 483, 3) := by decide +kernel
theorem dX12_draw_12 : decode cX12_draw 12 = .ok (.ladd, 1) := by decide +kernel
theorem dX12_draw_13 : decode cX12_draw 13 = .ok (.ldc2_w 485, 3) := by decide +kernel
theorem dX12_draw_16 : decode cX12_draw 16 = .ok (.lrem, 1) := by decide +kernel
theorem dX12_draw_17 : decode cX12_draw 17 = .ok (.putfield 477, 3) := by decide +kernel
theorem dX12_draw_20 : decode cX12_draw 20 = .ok (.aload_n 0, 1) := by decide +kernel
theorem dX12_draw_21 : decode cX12_draw 21 = .ok (.getfield 477, 3) := by decide +kernel
theorem dX12_draw_24 : decode cX12_draw 24 = .ok (.ldc2_w 487, 3) := by decide +kernel
theorem dX12_draw_27 : decode cX12_draw 27 = .ok (.ldiv, 1) := by decide +kernel
theorem dX12_draw_28 : decode cX12_draw 28 = .ok (.iload_n 1, 1) := by decide +kernel
theorem dX12_draw_29 : decode cX12_draw 29 = .ok (.i2l, 1) := by decide +kernel
theorem dX12_draw_30 : decode cX12_draw 30 = .ok (.lrem, 1) := by decide +kernel
theorem dX12_draw_31 : decode cX12_draw 31 = .ok (.l2i, 1) := by decide +kernel
theorem dX12_draw_32 : decode cX12_draw 32 = .ok (.ireturn, 1) := by decide +kernel
def m_draw (N : Nat) (a1 : Int) (M : jMem) : Option (Int × jMem) := jlt (up M 0 37 ((((w64 (((w64 (((M 0 37)) * 1103515245))) + 12345))).tmod 2147483648))) fun M1 => jchk (a1 ≠ 0) <| some ((w32 ((((w64 (((M1 0 37)).tdiv 65536))).tmod a1))), M1)
theorem c_m_draw {l : Launch} {g : jG} (N : Nat) (a1 : Int) (M : jMem)  : ∀ o, m_draw N a1 M = some o → jCt l g jTM yX12_draw cX12_draw 2 (some .int) 0 1 [(2, 0), (0, a1)] M o := by
  refine jMet (own := RX12) (em := id) (L := [(0, 2, 0), (1, 0, a1)]) (by decide +kernel) rfl (Nat.le_of_ble_eq_true rfl) rfl (fun K hR => ?_)
  unfold m_draw
  refine z_aload_n (pc := 0) hR 0 dX12_draw_0 rfl rfl ?_
  refine z_aload_n (pc := 1) hR 0 dX12_draw_1 rfl rfl ?_
  refine z_getl (pc := 2) hR (j := 37) jf_RX12_477 kmo_0 (by decide) rfl rfl dX12_draw_2 ?_
  refine z_ldc2 (pc := 5) hR (n := 1103515245) jc_RX12_481 (by decide) rfl dX12_draw_5 ?_
  refine z_lmul (pc := 8) hR dX12_draw_8 ?_
  refine z_ldc2 (pc := 9) hR (n := 12345) jc_RX12_483 (by decide) rfl dX12_draw_9 ?_
  refine z_ladd (pc := 12) hR dX12_draw_12 ?_
  refine z_ldc2 (pc := 13) hR (n := 2147483648) jc_RX12_485 (by decide) rfl dX12_draw_13 ?_
  refine z_lrem (pc := 16) hR dX12_draw_16 (by decide) ?_
  refine z_putl (pc := 17) hR (j := 37) jp_RX12_477 kmo_0 (by decide) rfl rfl rfl rfl dX12_draw_17 (fun M1 => ?_)
  refine z_aload_n (pc := 20) hR 0 dX12_draw_20 rfl rfl ?_
  refine z_getl (pc := 21) hR (j := 37) jf_RX12_477 kmo_0 (by decide) rfl rfl dX12_draw_21 ?_
  refine z_ldc2 (pc := 24) hR (n := 65536) jc_RX12_487 (by decide) rfl dX12_draw_24 ?_
  refine z_ldiv (pc := 27) hR dX12_draw_27 (by decide) ?_
  refine z_iload_n (pc := 28) hR 1 dX12_draw_28 rfl rfl ?_
  refine z_i2l (pc := 29) hR dX12_draw_29 ?_
  refine z_chk (fun hc2 => ?_)
  refine z_lrem (pc := 30) hR dX12_draw_30 hc2 ?_
  refine z_l2i (pc := 31) hR dX12_draw_31 ?_
  exact z_ireturn (pc := 32) hR rfl rfl dX12_draw_32 rfl
theorem dX12_droughts_0 : decode cX12_droughts 0 = .ok (.aload_n 0, 1) := by decide +kernel
theorem dX12_droughts_1 : decode cX12_droughts 1 = .ok (.invokevirtual 313, 3) := by decide +kernel
theorem dX12_droughts_4 : decode cX12_droughts 4 = .ok (.ifCond .eq 50, 3) := by decide +kernel
theorem dX12_droughts_7 : decode cX12_droughts 7 = .ok (.iload_n 1, 1) := by decide +kernel
theorem dX12_droughts_8 : decode cX12_droughts 8 = .ok (.i2l, 1) := by decide +kernel
theorem dX12_droughts_9 : decode cX12_droughts 9 = .ok (.lconst 1, 1) := by decide +kernel
theorem dX12_droughts_10 : decode cX12_droughts 10 = .ok (.ldc2_w 489, 3) := by decide +kernel
theorem dX12_droughts_13 : decode cX12_droughts 13 = .ok (.invokestatic 127, 3) := by decide +kernel
theorem dX12_droughts_16 : decode cX12_droughts 16 = .ok (.ifCond .eq 38, 3) := by decide +kernel
theorem dX12_droughts_19 : decode cX12_droughts 19 = .ok (.iload_n 2, 1) := by decide +kernel
theorem dX12_droughts_20 : decode cX12_droughts 20 = .ok (.i2l, 1) := by decide +kernel
theorem dX12_droughts_21 : decode cX12_droughts 21 = .ok (.lconst 1, 1) := by decide +kernel
theorem dX12_droughts_22 : decode cX12_droughts 22 = .ok (.ldc2_w 453, 3) := by decide +kernel
theorem dX12_droughts_25 : decode cX12_droughts 25 = .ok (.invokestatic 127, 3) := by decide +kernel
theorem dX12_droughts_28 : decode cX12_droughts 28 = .ok (.ifCond .eq 26, 3) := by decide +kernel
theorem dX12_droughts_31 : decode cX12_droughts 31 = .ok (.iload_n 3, 1) := by decide +kernel
theorem dX12_droughts_32 : decode cX12_droughts 32 = .ok (.i2l, 1) := by decide +kernel
theorem dX12_droughts_33 : decode cX12_droughts 33 = .ok (.lconst 0, 1) := by decide +kernel
theorem dX12_droughts_34 : decode cX12_droughts 34 = .ok (.ldc2_w 409, 3) := by decide +kernel
theorem dX12_droughts_37 : decode cX12_droughts 37 = .ok (.invokestatic 127, 3) := by decide +kernel
theorem dX12_droughts_40 : decode cX12_droughts 40 = .ok (.ifCond .eq 14, 3) := by decide +kernel
theorem dX12_droughts_43 : decode cX12_droughts 43 = .ok (.iload 4, 2) := by decide +kernel
theorem dX12_droughts_45 : decode cX12_droughts 45 = .ok (.i2l, 1) := by decide +kernel
theorem dX12_droughts_46 : decode cX12_droughts 46 = .ok (.lconst 0, 1) := by decide +kernel
theorem dX12_droughts_47 : decode cX12_droughts 47 = .ok (.lconst 1, 1) := by decide +kernel
theorem dX12_droughts_48 : decode cX12_droughts 48 = .ok (.invokestatic 127, 3) := by decide +kernel
theorem dX12_droughts_51 : decode cX12_droughts 51 = .ok (.ifCond .ne 5, 3) := by decide +kernel
theorem dX12_droughts_54 : decode cX12_droughts 54 = .ok (.iconst (-1), 1) := by decide +kernel
theorem dX12_droughts_55 : decode cX12_droughts 55 = .ok (.ireturn, 1) := by decide +kernel
theorem dX12_droughts_56 : decode cX12_droughts 56 = .ok (.aload_n 0, 1) := by decide +kernel
theorem dX12_droughts_57 : decode cX12_droughts 57 = .ok (.aload_n 0, 1) := by decide +kernel
theorem dX12_droughts_58 : decode cX12_droughts 58 = .ok (.getfield 474, 3) := by decide +kernel
theorem dX12_droughts_61 : decode cX12_droughts 61 = .ok (.i2l, 1) := by decide +kernel
theorem dX12_droughts_62 : decode cX12_droughts 62 = .ok (.putfield 477, 3) := by decide +kernel
theorem dX12_droughts_65 : decode cX12_droughts 65 = .ok (.iconst 0, 1) := by decide +kernel
theorem dX12_droughts_66 : decode cX12_droughts 66 = .ok (.istore 5, 2) := by decide +kernel
theorem dX12_droughts_68 : decode cX12_droughts 68 = .ok (.iconst 0, 1) := by decide +kernel
theorem dX12_droughts_69 : decode cX12_droughts 69 = .ok (.istore 6, 2) := by decide +kernel
theorem dX12_droughts_71 : decode cX12_droughts 71 = .ok (.aload_n 0, 1) := by decide +kernel
theorem dX12_droughts_72 : decode cX12_droughts 72 = .ok (.invokevirtual 415, 3) := by decide +kernel
theorem dX12_droughts_75 : decode cX12_droughts 75 = .ok (.iconst 0, 1) := by decide +kernel
theorem dX12_droughts_76 : decode cX12_droughts 76 = .ok (.istore 7, 2) := by decide +kernel
theorem dX12_droughts_78 : decode cX12_droughts 78 = .ok (.iload 7, 2) := by decide +kernel
theorem dX12_droughts_80 : decode cX12_droughts 80 = .ok (.iload_n 1, 1) := by decide +kernel
theorem dX12_droughts_81 : decode cX12_droughts 81 = .ok (.if_icmp .ge 93, 3) := by decide +kernel
theorem dX12_droughts_84 : decode cX12_droughts 84 = .ok (.iconst 0, 1) := by decide +kernel
theorem dX12_droughts_85 : decode cX12_droughts 85 = .ok (.istore 8, 2) := by decide +kernel
theorem dX12_droughts_87 : decode cX12_droughts 87 = .ok (.iload 8, 2) := by decide +kernel
theorem dX12_droughts_89 : decode cX12_droughts 89 = .ok (.iload_n 2, 1) := by decide +kernel
theorem dX12_droughts_90 : decode cX12_droughts 90 = .ok (.if_icmp .ge 51, 3) := by decide +kernel
theorem dX12_droughts_93 : decode cX12_droughts 93 = .ok (.aload_n 0, 1) := by decide +kernel
theorem dX12_droughts_94 : decode cX12_droughts 94 = .ok (.bipush 100, 2) := by decide +kernel
theorem dX12_droughts_96 : decode cX12_droughts 96 = .ok (.invokevirtual 491, 3) := by decide +kernel
theorem dX12_droughts_99 : decode cX12_droughts 99 = .ok (.iload_n 3, 1) := by decide +kernel
theorem dX12_droughts_100 : decode cX12_droughts 100 = .ok (.if_icmp .ge 30, 3) := by decide +kernel
theorem dX12_droughts_103 : decode cX12_droughts 103 = .ok (.aload_n 0, 1) := by decide +kernel
theorem dX12_droughts_104 : decode cX12_droughts 104 = .ok (.getfield 39, 3) := by decide +kernel
theorem dX12_droughts_107 : decode cX12_droughts 107 = .ok (.bipush 25, 2) := by decide +kernel
theorem dX12_droughts_109 : decode cX12_droughts 109 = .ok (.aload_n 0, 1) := by decide +kernel
theorem dX12_droughts_110 : decode cX12_droughts 110 = .ok (.getfield 39, 3) := by decide +kernel
theorem dX12_droughts_113 : decode cX12_droughts 113 = .ok (.bipush 32, 2) := by decide +kernel
theorem dX12_droughts_115 : decode cX12_droughts 115 = .ok (.aload_n 0, 1) := by decide +kernel
theorem dX12_droughts_116 : decode cX12_droughts 116 = .ok (.aload_n 0, 1) := by decide +kernel
theorem dX12_droughts_117 : decode cX12_droughts 117 = .ok (.getfield 39, 3) := by decide +kernel
theorem dX12_droughts_120 : decode cX12_droughts 120 = .ok (.iconst 1, 1) := by decide +kernel
theorem dX12_droughts_121 : decode cX12_droughts 121 = .ok (.iaload, 1) := by decide +kernel
theorem dX12_droughts_122 : decode cX12_droughts 122 = .ok (.invokevirtual 491, 3) := by decide +kernel
theorem dX12_droughts_125 : decode cX12_droughts 125 = .ok (.iadd, 1) := by decide +kernel
theorem dX12_droughts_126 : decode cX12_droughts 126 = .ok (.iaload, 1) := by decide +kernel
theorem dX12_droughts_127 : decode cX12_droughts 127 = .ok (.iadd, 1) := by decide +kernel
theorem dX12_droughts_128 : decode cX12_droughts 128 = .ok (.iconst 0, 1) := by decide +kernel
theorem dX12_droughts_129 : decode cX12_droughts 129 = .ok (.iastore, 1) := by decide +kernel
theorem dX12_droughts_130 : decode cX12_droughts 130 = .ok (.aload_n 0, 1) := by decide +kernel
theorem dX12_droughts_131 : decode cX12_droughts 131 = .ok (.invokevirtual 362, 3) := by decide +kernel
theorem dX12_droughts_134 : decode cX12_droughts 134 = .ok (.pop, 1) := by decide +kernel
theorem dX12_droughts_135 : decode cX12_droughts 135 = .ok (.iinc 8 1, 3) := by decide +kernel
theorem dX12_droughts_138 : decode cX12_droughts 138 = .ok (.goto (-51), 3) := by decide +kernel
theorem dX12_droughts_141 : decode cX12_droughts 141 = .ok (.iload 5, 2) := by decide +kernel
theorem dX12_droughts_143 : decode cX12_droughts 143 = .ok (.aload_n 0, 1) := by decide +kernel
theorem dX12_droughts_144 : decode cX12_droughts 144 = .ok (.invokevirtual 323, 3) := by decide +kernel
theorem dX12_droughts_147 : decode cX12_droughts 147 = .ok (.invokestatic 326, 3) := by decide +kernel
theorem dX12_droughts_150 : decode cX12_droughts 150 = .ok (.iadd, 1) := by decide +kernel
theorem dX12_droughts_151 : decode cX12_droughts 151 = .ok (.istore 5, 2) := by decide +kernel
theorem dX12_droughts_153 : decode cX12_droughts 153 = .ok (.iload 6, 2) := by decide +kernel
theorem dX12_droughts_155 : decode cX12_droughts 155 = .ok (.aload_n 0, 1) := by decide +kernel
theorem dX12_droughts_156 : decode cX12_droughts 156 = .ok (.bipush 25, 2) := by decide +kernel
theorem dX12_droughts_158 : decode cX12_droughts 158 = .ok (.invokevirtual 421, 3) := by decide +kernel
theorem dX12_droughts_161 : decode cX12_droughts 161 = .ok (.iadd, 1) := by decide +kernel
theorem dX12_droughts_162 : decode cX12_droughts 162 = .ok (.istore 6, 2) := by decide +kernel
theorem dX12_droughts_164 : decode cX12_droughts 164 = .ok (.aload_n 0, 1) := by decide +kernel
theorem dX12_droughts_165 : decode cX12_droughts 165 = .ok (.invokevirtual 424, 3) := by decide +kernel
theorem dX12_droughts_168 : decode cX12_droughts 168 = .ok (.iinc 7 1, 3) := by decide +kernel
theorem dX12_droughts_171 : decode cX12_droughts 171 = .ok (.goto (-93), 3) := by decide +kernel
theorem dX12_droughts_174 : decode cX12_droughts 174 = .ok (.iload 4, 2) := by decide +kernel
theorem dX12_droughts_176 : decode cX12_droughts 176 = .ok (.ifCond .ne 8, 3) := by decide +kernel
theorem dX12_droughts_179 : decode cX12_droughts 179 = .ok (.iload 5, 2) := by decide +kernel
theorem dX12_droughts_181 : decode cX12_droughts 181 = .ok (.goto 5, 3) := by decide +kernel
theorem dX12_droughts_184 : decode cX12_droughts 184 = .ok (.iload 6, 2) := by decide +kernel
theorem dX12_droughts_186 : decode cX12_droughts 186 = .ok (.ireturn, 1) := by decide +kernel
def m_droughts_L87 (N : Nat) (a2 : Int) (a3 : Int) (x8 : Int) (x9 : Int) (x10 : Int) (h78 : (Int × Int × Int × jMem) → Option (Int × jMem)) (h87 : (Int × jMem) → Option (Int × jMem)) : Int × jMem → Option (Int × jMem)
  | (x12, M13) => (if x12 < a2 then jb1 (m_draw N 100 M13) fun r20 M21 => jlt (fun (M22 : jMem) => jb1 (m_passes N M22) fun r23 M24 => h87 ((w32 (x12 + 1)), M24)) fun j130 => (if r20 < a3 then jb1 (m_draw N ((M21 10 1)) M21) fun r25 M26 => jchk (0 ≤ (w32 (32 + r25)) ∧ (w32 (32 + r25)) < 112) <| jchk (0 ≤ (w32 (25 + ((M26 10 ((w32 (32 + r25))))))) ∧ (w32 (25 + ((M26 10 ((w32 (32 + r25))))))) < 112) <| jlt (up M26 10 ((w32 (25 + ((M26 10 ((w32 (32 + r25)))))))) 0) fun M29 => j130 M29 else j130 M21) else (m_homeOnes N M13).bind fun r14 => (m_bits N r14 M13).bind fun r15 => jlt ((w32 (x8 + r15))) fun v16 => (m_sumOver N 25 M13).bind fun r17 => jlt ((w32 (x9 + r17))) fun v18 => jbv (m_laysBack N M13) fun M19 => h78 (v16, v18, (w32 (x10 + 1)), M19))
def m_droughts_L78 (N : Nat) (a1 : Int) (a2 : Int) (a3 : Int) (a4 : Int) (h78 : (Int × Int × Int × jMem) → Option (Int × jMem)) : Int × Int × Int × jMem → Option (Int × jMem)
  | (x8, x9, x10, M11) => (if x10 < a1 then jfix N (m_droughts_L87 N a2 a3 x8 x9 x10 h78) (0, M11) else (if a4 = 0 then some (x8, M11) else some (x9, M11)))
def m_droughts (N : Nat) (a1 a2 a3 a4 : Int) (M : jMem) : Option (Int × jMem) := (m_isParish N M).bind fun r1 => (if r1 = 0 then some ((-1), M) else (m_in N a1 1 10 M).bind fun r2 => (if r2 = 0 then some ((-1), M) else (m_in N a2 1 60 M).bind fun r3 => (if r3 = 0 then some ((-1), M) else (m_in N a3 0 100 M).bind fun r4 => (if r4 = 0 then some ((-1), M) else (m_in N a4 0 1 M).bind fun r5 => (if r5 = 0 then some ((-1), M) else jlt (up M 0 37 ((M 0 22))) fun M6 => jbv (m_keeps N M6) fun M7 => jfix N (m_droughts_L78 N a1 a2 a3 a4) (0, 0, 0, M7))))))
theorem c_m_droughts {l : Launch} {g : jG} (N : Nat) (a1 a2 a3 a4 : Int) (M : jMem)  : ∀ o, m_droughts N a1 a2 a3 a4 M = some o → jCt l g jTM yX12_droughts cX12_droughts 9 (some .int) 0 13 [(2, 0), (0, a1), (0, a2), (0, a3), (0, a4)] M o := by
  refine jMet (own := RX12) (em := id) (L := [(0, 2, 0), (1, 0, a1), (2, 0, a2), (3, 0, a3), (4, 0, a4)]) (by decide +kernel) rfl (Nat.le_of_ble_eq_true rfl) rfl (fun K hR => ?_)
  unfold m_droughts
  refine z_aload_n (pc := 0) hR 0 dX12_droughts_0 rfl rfl ?_
  refine z_callvp (pc := 1) hR (As := []) (st := []) jm_X12_isParish jl_RX12_313 kmo_0 (by decide) rfl (by decide) (c_m_isParish N M) rfl (by decide) (by decide) rfl (Nat.le_of_ble_eq_true rfl) dX12_droughts_1 (fun r1 => ?_)
  refine z_ifeq (pc := 4) (tgt := 54) hR dX12_droughts_4 (by decide) ?_ ?_
  · refine z_iconst (pc := 54) hR dX12_droughts_54 rfl ?_
    exact z_ireturn (pc := 55) hR rfl rfl dX12_droughts_55 rfl
  · refine z_iload_n (pc := 7) hR 1 dX12_droughts_7 rfl rfl ?_
    refine z_i2l (pc := 8) hR dX12_droughts_8 ?_
    refine z_lconst (pc := 9) hR (x := 1) dX12_droughts_9 rfl ?_
    refine z_ldc2 (pc := 10) hR (n := 10) jc_RX12_489 (by decide) rfl dX12_droughts_10 ?_
    refine z_callsp (pc := 13) hR (As := [(1, a1), (1, 1), (1, 10)]) (st := []) jm_X12_in jl_RX12_127 (by decide) (c_m_in N a1 1 10 M) rfl (by decide) (by decide) rfl (Nat.le_of_ble_eq_true rfl) dX12_droughts_13 (fun r2 => ?_)
    refine z_ifeq (pc := 16) (tgt := 54) hR dX12_droughts_16 (by decide) ?_ ?_
    · refine z_iconst (pc := 54) hR dX12_droughts_54 rfl ?_
      exact z_ireturn (pc := 55) hR rfl rfl dX12_droughts_55 rfl
    · refine z_iload_n (pc := 19) hR 2 dX12_droughts_19 rfl rfl ?_
      refine z_i2l (pc := 20) hR dX12_droughts_20 ?_
      refine z_lconst (pc := 21) hR (x := 1) dX12_droughts_21 rfl ?_
      refine z_ldc2 (pc := 22) hR (n := 60) jc_RX12_453 (by decide) rfl dX12_droughts_22 ?_
      refine z_callsp (pc := 25) hR (As := [(1, a2), (1, 1), (1, 60)]) (st := []) jm_X12_in jl_RX12_127 (by decide) (c_m_in N a2 1 60 M) rfl (by decide) (by decide) rfl (Nat.le_of_ble_eq_true rfl) dX12_droughts_25 (fun r3 => ?_)
      refine z_ifeq (pc := 28) (tgt := 54) hR dX12_droughts_28 (by decide) ?_ ?_
      · refine z_iconst (pc := 54) hR dX12_droughts_54 rfl ?_
        exact z_ireturn (pc := 55) hR rfl rfl dX12_droughts_55 rfl
      · refine z_iload_n (pc := 31) hR 3 dX12_droughts_31 rfl rfl ?_
        refine z_i2l (pc := 32) hR dX12_droughts_32 ?_
        refine z_lconst (pc := 33) hR (x := 0) dX12_droughts_33 rfl ?_
        refine z_ldc2 (pc := 34) hR (n := 100) jc_RX12_409 (by decide) rfl dX12_droughts_34 ?_
        refine z_callsp (pc := 37) hR (As := [(1, a3), (1, 0), (1, 100)]) (st := []) jm_X12_in jl_RX12_127 (by decide) (c_m_in N a3 0 100 M) rfl (by decide) (by decide) rfl (Nat.le_of_ble_eq_true rfl) dX12_droughts_37 (fun r4 => ?_)
        refine z_ifeq (pc := 40) (tgt := 54) hR dX12_droughts_40 (by decide) ?_ ?_
        · refine z_iconst (pc := 54) hR dX12_droughts_54 rfl ?_
          exact z_ireturn (pc := 55) hR rfl rfl dX12_droughts_55 rfl
        · refine z_iload (pc := 43) hR 4 dX12_droughts_43 rfl ?_
          refine z_i2l (pc := 45) hR dX12_droughts_45 ?_
          refine z_lconst (pc := 46) hR (x := 0) dX12_droughts_46 rfl ?_
          refine z_lconst (pc := 47) hR (x := 1) dX12_droughts_47 rfl ?_
          refine z_callsp (pc := 48) hR (As := [(1, a4), (1, 0), (1, 1)]) (st := []) jm_X12_in jl_RX12_127 (by decide) (c_m_in N a4 0 1 M) rfl (by decide) (by decide) rfl (Nat.le_of_ble_eq_true rfl) dX12_droughts_48 (fun r5 => ?_)
          refine z_ifne (pc := 51) (tgt := 56) hR dX12_droughts_51 (by decide) ?_ ?_
          · refine z_aload_n (pc := 56) hR 0 dX12_droughts_56 rfl rfl ?_
            refine z_aload_n (pc := 57) hR 0 dX12_droughts_57 rfl rfl ?_
            refine z_geti (pc := 58) hR (j := 22) jf_RX12_474 kmo_0 (by decide) rfl rfl dX12_droughts_58 ?_
            refine z_i2l (pc := 61) hR dX12_droughts_61 ?_
            refine z_putl (pc := 62) hR (j := 37) jp_RX12_477 kmo_0 (by decide) rfl rfl rfl rfl dX12_droughts_62 (fun M6 => ?_)
            refine z_iconst (pc := 65) hR dX12_droughts_65 rfl ?_
            refine z_istore (pc := 66) hR (lv' := [(5, 0, 0), (0, 2, 0), (1, 0, a1), (2, 0, a2), (3, 0, a3), (4, 0, a4)]) dX12_droughts_66 (by decide) rfl ?_
            refine z_iconst (pc := 68) hR dX12_droughts_68 rfl ?_
            refine z_istore (pc := 69) hR (lv' := [(6, 0, 0), (5, 0, 0), (0, 2, 0), (1, 0, a1), (2, 0, a2), (3, 0, a3), (4, 0, a4)]) dX12_droughts_69 (by decide) rfl ?_
            refine z_aload_n (pc := 71) hR 2 dX12_droughts_71 rfl rfl ?_
            refine z_callv0 (pc := 72) (rk' := 3) hR (As := []) (st := []) jm_X12_keeps jl_RX12_415 kmo_0 (by decide) rfl (c_m_keeps N M6) rfl (by decide) (by decide) rfl (Nat.le_of_ble_eq_true rfl) dX12_droughts_72 (fun M7 => ?_)
            refine z_iconst (pc := 75) hR dX12_droughts_75 rfl ?_
            refine z_istore (pc := 76) hR (lv' := [(7, 0, 0), (6, 0, 0), (5, 0, 0), (0, 2, 0), (1, 0, a1), (2, 0, a2), (3, 0, a3), (4, 0, a4)]) dX12_droughts_76 (by decide) rfl ?_
            refine z_pick (pc := 78) (lv' := [(0, 2, 0), (1, 0, a1), (2, 0, a2), (3, 0, a3), (4, 0, a4), (5, 0, 0), (6, 0, 0), (7, 0, 0)]) hR [3, 4, 5, 6, 7, 2, 1, 0] rfl ?_
            refine z_fix (σ := Int × Int × Int × jMem) (lv := fun s => [(0, 2, 0), (1, 0, a1), (2, 0, a2), (3, 0, a3), (4, 0, a4), (5, 0, s.1), (6, 0, s.2.1), (7, 0, s.2.2.1)]) (st := fun _ => []) (M := fun s => s.2.2.2) (fun h78 hh78 => ?_) N (0, 0, 0, M7)
            rintro ⟨x8, x9, x10, M11⟩
            show jZ K id 78 [(0, 2, 0), (1, 0, a1), (2, 0, a2), (3, 0, a3), (4, 0, a4), (5, 0, x8), (6, 0, x9), (7, 0, x10)] [] M11 _
            unfold m_droughts_L78
            refine z_iload (pc := 78) hR 7 dX12_droughts_78 rfl ?_
            refine z_iload_n (pc := 80) hR 1 dX12_droughts_80 rfl rfl ?_
            refine z_icmpge (pc := 81) (tgt := 174) hR dX12_droughts_81 (by decide) ?_ ?_
            · refine z_iload (pc := 174) hR 4 dX12_droughts_174 rfl ?_
              refine z_ifne (pc := 176) (tgt := 184) hR dX12_droughts_176 (by decide) ?_ ?_
              · refine z_iload (pc := 184) hR 6 dX12_droughts_184 rfl ?_
                exact z_ireturn (pc := 186) hR rfl rfl dX12_droughts_186 rfl
              · refine z_iload (pc := 179) hR 5 dX12_droughts_179 rfl ?_
                refine z_goto (pc := 181) (tgt := 186) hR dX12_droughts_181 (by decide) ?_
                exact z_ireturn (pc := 186) hR rfl rfl dX12_droughts_186 rfl
            · refine z_iconst (pc := 84) hR dX12_droughts_84 rfl ?_
              refine z_istore (pc := 85) hR (lv' := [(8, 0, 0), (0, 2, 0), (1, 0, a1), (2, 0, a2), (3, 0, a3), (4, 0, a4), (5, 0, x8), (6, 0, x9), (7, 0, x10)]) dX12_droughts_85 (by decide) rfl ?_
              refine z_pick (pc := 87) (lv' := [(0, 2, 0), (1, 0, a1), (2, 0, a2), (3, 0, a3), (4, 0, a4), (5, 0, x8), (6, 0, x9), (7, 0, x10), (8, 0, 0)]) hR [1, 2, 3, 4, 5, 6, 7, 8, 0] rfl ?_
              refine z_fix (σ := Int × jMem) (lv := fun s => [(0, 2, 0), (1, 0, a1), (2, 0, a2), (3, 0, a3), (4, 0, a4), (5, 0, x8), (6, 0, x9), (7, 0, x10), (8, 0, s.1)]) (st := fun _ => []) (M := fun s => s.2) (fun h87 hh87 => ?_) N (0, M11)
              rintro ⟨x12, M13⟩
              show jZ K id 87 [(0, 2, 0), (1, 0, a1), (2, 0, a2), (3, 0, a3), (4, 0, a4), (5, 0, x8), (6, 0, x9), (7, 0, x10), (8, 0, x12)] [] M13 _
              unfold m_droughts_L87
              refine z_iload (pc := 87) hR 8 dX12_droughts_87 rfl ?_
              refine z_iload_n (pc := 89) hR 2 dX12_droughts_89 rfl rfl ?_
              refine z_icmpge (pc := 90) (tgt := 141) hR dX12_droughts_90 (by decide) ?_ ?_
              · refine z_iload (pc := 141) hR 5 dX12_droughts_141 rfl ?_
                refine z_aload_n (pc := 143) hR 0 dX12_droughts_143 rfl rfl ?_
                refine z_callvp (pc := 144) hR (As := []) (st := [(0, x8)]) jm_X12_homeOnes jl_RX12_323 kmo_0 (by decide) rfl (by decide) (c_m_homeOnes N M13) rfl (by decide) (by decide) rfl (Nat.le_of_ble_eq_true rfl) dX12_droughts_144 (fun r14 => ?_)
                refine z_callsp (pc := 147) hR (As := [(0, r14)]) (st := [(0, x8)]) jm_X12_bits jl_RX12_326 (by decide) (c_m_bits N r14 M13) rfl (by decide) (by decide) rfl (Nat.le_of_ble_eq_true rfl) dX12_droughts_147 (fun r15 => ?_)
                refine z_iadd (pc := 150) hR dX12_droughts_150 ?_
                refine z_let1 (fun v16 => ?_)
                refine z_istore (pc := 151) hR (lv' := [(5, 0, v16), (0, 2, 0), (1, 0, a1), (2, 0, a2), (3, 0, a3), (4, 0, a4), (6, 0, x9), (7, 0, x10), (8, 0, x12)]) dX12_droughts_151 (by decide) rfl ?_
                refine z_iload (pc := 153) hR 6 dX12_droughts_153 rfl ?_
                refine z_aload_n (pc := 155) hR 1 dX12_droughts_155 rfl rfl ?_
                refine z_bipush (pc := 156) hR dX12_droughts_156 rfl ?_
                refine z_callvp (pc := 158) hR (As := [(0, 25)]) (st := [(0, x9)]) jm_X12_sumOver jl_RX12_421 kmo_0 (by decide) rfl (by decide) (c_m_sumOver N 25 M13) rfl (by decide) (by decide) rfl (Nat.le_of_ble_eq_true rfl) dX12_droughts_158 (fun r17 => ?_)
                refine z_iadd (pc := 161) hR dX12_droughts_161 ?_
                refine z_let1 (fun v18 => ?_)
                refine z_istore (pc := 162) hR (lv' := [(6, 0, v18), (5, 0, v16), (0, 2, 0), (1, 0, a1), (2, 0, a2), (3, 0, a3), (4, 0, a4), (7, 0, x10), (8, 0, x12)]) dX12_droughts_162 (by decide) rfl ?_
                refine z_aload_n (pc := 164) hR 2 dX12_droughts_164 rfl rfl ?_
                refine z_callv0 (pc := 165) (rk' := 3) hR (As := []) (st := []) jm_X12_laysBack jl_RX12_424 kmo_0 (by decide) rfl (c_m_laysBack N M13) rfl (by decide) (by decide) rfl (Nat.le_of_ble_eq_true rfl) dX12_droughts_165 (fun M19 => ?_)
                refine z_iinc (pc := 168) hR (j := 7) (lv' := [(7, 0, (w32 (x10 + 1))), (6, 0, v18), (5, 0, v16), (0, 2, 0), (1, 0, a1), (2, 0, a2), (3, 0, a3), (4, 0, a4), (8, 0, x12)]) dX12_droughts_168 rfl (by decide) rfl ?_
                refine z_goto (pc := 171) (tgt := 78) hR dX12_droughts_171 (by decide) ?_
                refine z_pick (pc := 78) (lv' := [(0, 2, 0), (1, 0, a1), (2, 0, a2), (3, 0, a3), (4, 0, a4), (5, 0, v16), (6, 0, v18), (7, 0, (w32 (x10 + 1)))]) hR [3, 4, 5, 6, 7, 2, 1, 0] rfl ?_
                exact hh78 (v16, v18, (w32 (x10 + 1)), M19)
              · refine z_aload_n (pc := 93) hR 0 dX12_droughts_93 rfl rfl ?_
                refine z_bipush (pc := 94) hR dX12_droughts_94 rfl ?_
                refine z_callv1 (pc := 96) hR (As := [(0, 100)]) (st := []) jm_X12_draw jl_RX12_491 kmo_0 (by decide) rfl (by decide) (c_m_draw N 100 M13) rfl (by decide) (by decide) rfl (Nat.le_of_ble_eq_true rfl) dX12_droughts_96 (fun r20 M21 => ?_)
                refine z_iload_n (pc := 99) hR 3 dX12_droughts_99 rfl rfl ?_
                refine z_join (P := fun j => ∀ (M22 : jMem), jZ K id 130 [(0, 2, 0), (1, 0, a1), (2, 0, a2), (3, 0, a3), (4, 0, a4), (5, 0, x8), (6, 0, x9), (7, 0, x10), (8, 0, x12)] [] M22 (j M22)) (fun M22 => ?_) (fun j130 hj130 => ?_)
                · refine z_aload_n (pc := 130) hR 0 dX12_droughts_130 rfl rfl ?_
                  refine z_callv1 (pc := 131) hR (As := []) (st := []) jm_X12_passes jl_RX12_362 kmo_0 (by decide) rfl (by decide) (c_m_passes N M22) rfl (by decide) (by decide) rfl (Nat.le_of_ble_eq_true rfl) dX12_droughts_131 (fun r23 M24 => ?_)
                  refine z_pop (pc := 134) hR dX12_droughts_134 (by decide) ?_
                  refine z_iinc (pc := 135) hR (j := 8) (lv' := [(8, 0, (w32 (x12 + 1))), (0, 2, 0), (1, 0, a1), (2, 0, a2), (3, 0, a3), (4, 0, a4), (5, 0, x8), (6, 0, x9), (7, 0, x10)]) dX12_droughts_135 rfl (by decide) rfl ?_
                  refine z_goto (pc := 138) (tgt := 87) hR dX12_droughts_138 (by decide) ?_
                  refine z_pick (pc := 87) (lv' := [(0, 2, 0), (1, 0, a1), (2, 0, a2), (3, 0, a3), (4, 0, a4), (5, 0, x8), (6, 0, x9), (7, 0, x10), (8, 0, (w32 (x12 + 1)))]) hR [1, 2, 3, 4, 5, 6, 7, 8, 0] rfl ?_
                  exact hh87 ((w32 (x12 + 1)), M24)
                refine z_icmpge (pc := 100) (tgt := 130) hR dX12_droughts_100 (by decide) ?_ ?_
                · exact hj130 M21
                · refine z_aload_n (pc := 103) hR 0 dX12_droughts_103 rfl rfl ?_
                  refine z_getr (pc := 104) hR (c0 := 10) (r := 10) jf_RX12_39 kmo_0 (by decide) rfl rfl dX12_droughts_104 ?_
                  refine z_bipush (pc := 107) hR dX12_droughts_107 rfl ?_
                  refine z_aload_n (pc := 109) hR 0 dX12_droughts_109 rfl rfl ?_
                  refine z_getr (pc := 110) hR (c0 := 10) (r := 10) jf_RX12_39 kmo_0 (by decide) rfl rfl dX12_droughts_110 ?_
                  refine z_bipush (pc := 113) hR dX12_droughts_113 rfl ?_
                  refine z_aload_n (pc := 115) hR 0 dX12_droughts_115 rfl rfl ?_
                  refine z_aload_n (pc := 116) hR 0 dX12_droughts_116 rfl rfl ?_
                  refine z_getr (pc := 117) hR (c0 := 10) (r := 10) jf_RX12_39 kmo_0 (by decide) rfl rfl dX12_droughts_117 ?_
                  refine z_iconst (pc := 120) hR dX12_droughts_120 rfl ?_
                  refine z_iald (pc := 121) hR (n := 112) kma_10 (by decide) (by decide) dX12_droughts_121 ?_
                  refine z_callv1 (pc := 122) hR (As := [(0, (M21 10 1))]) (st := [(0, 32), (2, 10), (0, 25), (2, 10)]) jm_X12_draw jl_RX12_491 kmo_0 (by decide) rfl (by decide) (c_m_draw N ((M21 10 1)) M21) rfl (by decide) (by decide) rfl (Nat.le_of_ble_eq_true rfl) dX12_droughts_122 (fun r25 M26 => ?_)
                  refine z_iadd (pc := 125) hR dX12_droughts_125 ?_
                  refine z_chk (fun hc27 => ?_)
                  refine z_iald (pc := 126) hR (n := 112) kma_10 hc27.1 hc27.2 dX12_droughts_126 ?_
                  refine z_iadd (pc := 127) hR dX12_droughts_127 ?_
                  refine z_iconst (pc := 128) hR dX12_droughts_128 rfl ?_
                  refine z_chk (fun hc28 => ?_)
                  refine z_iast (pc := 129) hR (n := 112) kma_10 hc28.1 hc28.2 dX12_droughts_129 (fun M29 => ?_)
                  exact hj130 M29
          · refine z_iconst (pc := 54) hR dX12_droughts_54 rfl ?_
            exact z_ireturn (pc := 55) hR rfl rfl dX12_droughts_55 rfl
theorem dX12_count_0 : decode cX12_count 0 = .ok (.iload_n 1, 1) := by decide +kernel
theorem dX12_count_1 : decode cX12_count 1 = .ok (.tableswitch 141 0 12 #[67, 67, 76, 81, 86, 94, 99, 106, 113, 118, 126, 131, 136], 67) := by decide +kernel
theorem dX12_count_68 : decode cX12_count 68 = .ok (.aload_n 0, 1) := by decide +kernel
theorem dX12_count_69 : decode cX12_count 69 = .ok (.getfield 39, 3) := by decide +kernel
theorem dX12_count_72 : decode cX12_count 72 = .ok (.iload_n 1, 1) := by decide +kernel
theorem dX12_count_73 : decode cX12_count 73 = .ok (.iconst 1, 1) := by decide +kernel
theorem dX12_count_74 : decode cX12_count 74 = .ok (.iadd, 1) := by decide +kernel
theorem dX12_count_75 : decode cX12_count 75 = .ok (.iaload, 1) := by decide +kernel
theorem dX12_count_76 : decode cX12_count 76 = .ok (.ireturn, 1) := by decide +kernel
theorem dX12_count_77 : decode cX12_count 77 = .ok (.aload_n 0, 1) := by decide +kernel
theorem dX12_count_78 : decode cX12_count 78 = .ok (.getfield 268, 3) := by decide +kernel
theorem dX12_count_81 : decode cX12_count 81 = .ok (.ireturn, 1) := by decide +kernel
theorem dX12_count_82 : decode cX12_count 82 = .ok (.aload_n 0, 1) := by decide +kernel
theorem dX12_count_83 : decode cX12_count 83 = .ok (.getfield 42, 3) := by decide +kernel
theorem dX12_count_86 : decode cX12_count 86 = .ok (.ireturn, 1) := by decide +kernel
theorem dX12_count_87 : decode cX12_count 87 = .ok (.aload_n 0, 1) := by decide +kernel
theorem dX12_count_88 : decode cX12_count 88 = .ok (.getfield 39, 3) := by decide +kernel
theorem dX12_count_91 : decode cX12_count 91 = .ok (.bipush 10, 2) := by decide +kernel
theorem dX12_count_93 : decode cX12_count 93 = .ok (.iaload, 1) := by decide +kernel
theorem dX12_count_94 : decode cX12_count 94 = .ok (.ireturn, 1) := by decide +kernel
theorem dX12_count_95 : decode cX12_count 95 = .ok (.aload_n 0, 1) := by decide +kernel
theorem dX12_count_96 : decode cX12_count 96 = .ok (.invokevirtual 323, 3) := by decide +kernel
theorem dX12_count_99 : decode cX12_count 99 = .ok (.ireturn, 1) := by decide +kernel
theorem dX12_count_100 : decode cX12_count 100 = .ok (.aload_n 0, 1) := by decide +kernel
theorem dX12_count_101 : decode cX12_count 101 = .ok (.bipush 25, 2) := by decide +kernel
theorem dX12_count_103 : decode cX12_count 103 = .ok (.invokevirtual 421, 3) := by decide +kernel
theorem dX12_count_106 : decode cX12_count 106 = .ok (.ireturn, 1) := by decide +kernel
theorem dX12_count_107 : decode cX12_count 107 = .ok (.aload_n 0, 1) := by decide +kernel
theorem dX12_count_108 : decode cX12_count 108 = .ok (.bipush 39, 2) := by decide +kernel
theorem dX12_count_110 : decode cX12_count 110 = .ok (.invokevirtual 421, 3) := by decide +kernel
theorem dX12_count_113 : decode cX12_count 113 = .ok (.ireturn, 1) := by decide +kernel
theorem dX12_count_114 : decode cX12_count 114 = .ok (.aload_n 0, 1) := by decide +kernel
theorem dX12_count_115 : decode cX12_count 115 = .ok (.invokevirtual 494, 3) := by decide +kernel
theorem dX12_count_118 : decode cX12_count 118 = .ok (.ireturn, 1) := by decide +kernel
theorem dX12_count_119 : decode cX12_count 119 = .ok (.aload_n 0, 1) := by decide +kernel
theorem dX12_count_120 : decode cX12_count 120 = .ok (.getfield 39, 3) := by decide +kernel
theorem dX12_count_123 : decode cX12_count 123 = .ok (.bipush 111, 2) := by decide +kernel
theorem dX12_count_125 : decode cX12_count 125 = .ok (.iaload, 1) := by decide +kernel
theorem dX12_count_126 : decode cX12_count 126 = .ok (.ireturn, 1) := by decide +kernel
theorem dX12_count_127 : decode cX12_count 127 = .ok (.aload_n 0, 1) := by decide +kernel
theorem dX12_count_128 : decode cX12_count 128 = .ok (.getfield 277, 3) := by decide +kernel
theorem dX12_count_131 : decode cX12_count 131 = .ok (.ireturn, 1) := by decide +kernel
theorem dX12_count_132 : decode cX12_count 132 = .ok (.aload_n 0, 1) := by decide +kernel
theorem dX12_count_133 : decode cX12_count 133 = .ok (.getfield 474, 3) := by decide +kernel
theorem dX12_count_136 : decode cX12_count 136 = .ok (.ireturn, 1) := by decide +kernel
theorem dX12_count_137 : decode cX12_count 137 = .ok (.aload_n 0, 1) := by decide +kernel
theorem dX12_count_138 : decode cX12_count 138 = .ok (.getfield 89, 3) := by decide +kernel
theorem dX12_count_141 : decode cX12_count 141 = .ok (.ireturn, 1) := by decide +kernel
theorem dX12_count_142 : decode cX12_count 142 = .ok (.iconst (-1), 1) := by decide +kernel
theorem dX12_count_143 : decode cX12_count 143 = .ok (.ireturn, 1) := by decide +kernel
def m_count (N : Nat) (a1 : Int) (M : jMem) : Option Int := (if a1 = 0 then jchk (0 ≤ (w32 (a1 + 1)) ∧ (w32 (a1 + 1)) < 112) <| some ((M 10 ((w32 (a1 + 1))))) else (if a1 = 1 then jchk (0 ≤ (w32 (a1 + 1)) ∧ (w32 (a1 + 1)) < 112) <| some ((M 10 ((w32 (a1 + 1))))) else (if a1 = 2 then some ((M 0 2)) else (if a1 = 3 then some ((M 0 21)) else (if a1 = 4 then some ((M 10 10)) else (if a1 = 5 then (m_homeOnes N M).bind fun r9 => some r9 else (if a1 = 6 then (m_sumOver N 25 M).bind fun r11 => some r11 else (if a1 = 7 then (m_sumOver N 39 M).bind fun r13 => some r13 else (if a1 = 8 then (m_twosMany N M).bind fun r15 => some r15 else (if a1 = 9 then some ((M 10 111)) else (if a1 = 10 then some ((M 0 26)) else (if a1 = 11 then some ((M 0 22)) else (if a1 = 12 then some ((M 0 1)) else some ((-1)))))))))))))))
theorem c_m_count {l : Launch} {g : jG} (N : Nat) (a1 : Int) (M : jMem)  : ∀ o, m_count N a1 M = some o → jCt l g jTM yX12_count cX12_count 2 (some .int) 0 9 [(2, 0), (0, a1)] M (o, M) := by
  refine jMet (own := RX12) (em := (fun r => (r, M))) (L := [(0, 2, 0), (1, 0, a1)]) (by decide +kernel) rfl (Nat.le_of_ble_eq_true rfl) rfl (fun K hR => ?_)
  unfold m_count
  refine z_iload_n (pc := 0) hR 1 dX12_count_0 rfl rfl ?_
  refine z_tsw (pc := 1) (tgt := 68) (j := 0) (y := 0) hR dX12_count_1 rfl rfl (by decide) (by decide) ?_ (fun hs1 => ?_)
  · refine z_aload_n (pc := 68) hR 0 dX12_count_68 rfl rfl ?_
    refine z_getr (pc := 69) hR (c0 := 10) (r := 10) jf_RX12_39 kmo_0 (by decide) rfl rfl dX12_count_69 ?_
    refine z_iload_n (pc := 72) hR 1 dX12_count_72 rfl rfl ?_
    refine z_iconst (pc := 73) hR dX12_count_73 rfl ?_
    refine z_iadd (pc := 74) hR dX12_count_74 ?_
    refine z_chk (fun hc2 => ?_)
    refine z_iald (pc := 75) hR (n := 112) kma_10 hc2.1 hc2.2 dX12_count_75 ?_
    exact z_ireturn (pc := 76) hR rfl rfl dX12_count_76 rfl
  refine z_tsw (pc := 1) (tgt := 68) (j := 1) (y := 1) hR dX12_count_1 rfl rfl (by decide) (by decide) ?_ (fun hs3 => ?_)
  · refine z_aload_n (pc := 68) hR 0 dX12_count_68 rfl rfl ?_
    refine z_getr (pc := 69) hR (c0 := 10) (r := 10) jf_RX12_39 kmo_0 (by decide) rfl rfl dX12_count_69 ?_
    refine z_iload_n (pc := 72) hR 1 dX12_count_72 rfl rfl ?_
    refine z_iconst (pc := 73) hR dX12_count_73 rfl ?_
    refine z_iadd (pc := 74) hR dX12_count_74 ?_
    refine z_chk (fun hc4 => ?_)
    refine z_iald (pc := 75) hR (n := 112) kma_10 hc4.1 hc4.2 dX12_count_75 ?_
    exact z_ireturn (pc := 76) hR rfl rfl dX12_count_76 rfl
  refine z_tsw (pc := 1) (tgt := 77) (j := 2) (y := 2) hR dX12_count_1 rfl rfl (by decide) (by decide) ?_ (fun hs5 => ?_)
  · refine z_aload_n (pc := 77) hR 0 dX12_count_77 rfl rfl ?_
    refine z_geti (pc := 78) hR (j := 2) jf_RX12_268 kmo_0 (by decide) rfl rfl dX12_count_78 ?_
    exact z_ireturn (pc := 81) hR rfl rfl dX12_count_81 rfl
  refine z_tsw (pc := 1) (tgt := 82) (j := 3) (y := 3) hR dX12_count_1 rfl rfl (by decide) (by decide) ?_ (fun hs6 => ?_)
  · refine z_aload_n (pc := 82) hR 0 dX12_count_82 rfl rfl ?_
    refine z_geti (pc := 83) hR (j := 21) jf_RX12_42 kmo_0 (by decide) rfl rfl dX12_count_83 ?_
    exact z_ireturn (pc := 86) hR rfl rfl dX12_count_86 rfl
  refine z_tsw (pc := 1) (tgt := 87) (j := 4) (y := 4) hR dX12_count_1 rfl rfl (by decide) (by decide) ?_ (fun hs7 => ?_)
  · refine z_aload_n (pc := 87) hR 0 dX12_count_87 rfl rfl ?_
    refine z_getr (pc := 88) hR (c0 := 10) (r := 10) jf_RX12_39 kmo_0 (by decide) rfl rfl dX12_count_88 ?_
    refine z_bipush (pc := 91) hR dX12_count_91 rfl ?_
    refine z_iald (pc := 93) hR (n := 112) kma_10 (by decide) (by decide) dX12_count_93 ?_
    exact z_ireturn (pc := 94) hR rfl rfl dX12_count_94 rfl
  refine z_tsw (pc := 1) (tgt := 95) (j := 5) (y := 5) hR dX12_count_1 rfl rfl (by decide) (by decide) ?_ (fun hs8 => ?_)
  · refine z_aload_n (pc := 95) hR 0 dX12_count_95 rfl rfl ?_
    refine z_callvp (pc := 96) hR (As := []) (st := []) jm_X12_homeOnes jl_RX12_323 kmo_0 (by decide) rfl (by decide) (c_m_homeOnes N M) rfl (by decide) (by decide) rfl (Nat.le_of_ble_eq_true rfl) dX12_count_96 (fun r9 => ?_)
    exact z_ireturn (pc := 99) hR rfl rfl dX12_count_99 rfl
  refine z_tsw (pc := 1) (tgt := 100) (j := 6) (y := 6) hR dX12_count_1 rfl rfl (by decide) (by decide) ?_ (fun hs10 => ?_)
  · refine z_aload_n (pc := 100) hR 0 dX12_count_100 rfl rfl ?_
    refine z_bipush (pc := 101) hR dX12_count_101 rfl ?_
    refine z_callvp (pc := 103) hR (As := [(0, 25)]) (st := []) jm_X12_sumOver jl_RX12_421 kmo_0 (by decide) rfl (by decide) (c_m_sumOver N 25 M) rfl (by decide) (by decide) rfl (Nat.le_of_ble_eq_true rfl) dX12_count_103 (fun r11 => ?_)
    exact z_ireturn (pc := 106) hR rfl rfl dX12_count_106 rfl
  refine z_tsw (pc := 1) (tgt := 107) (j := 7) (y := 7) hR dX12_count_1 rfl rfl (by decide) (by decide) ?_ (fun hs12 => ?_)
  · refine z_aload_n (pc := 107) hR 0 dX12_count_107 rfl rfl ?_
    refine z_bipush (pc := 108) hR dX12_count_108 rfl ?_
    refine z_callvp (pc := 110) hR (As := [(0, 39)]) (st := []) jm_X12_sumOver jl_RX12_421 kmo_0 (by decide) rfl (by decide) (c_m_sumOver N 39 M) rfl (by decide) (by decide) rfl (Nat.le_of_ble_eq_true rfl) dX12_count_110 (fun r13 => ?_)
    exact z_ireturn (pc := 113) hR rfl rfl dX12_count_113 rfl
  refine z_tsw (pc := 1) (tgt := 114) (j := 8) (y := 8) hR dX12_count_1 rfl rfl (by decide) (by decide) ?_ (fun hs14 => ?_)
  · refine z_aload_n (pc := 114) hR 0 dX12_count_114 rfl rfl ?_
    refine z_callvp (pc := 115) hR (As := []) (st := []) jm_X12_twosMany jl_RX12_494 kmo_0 (by decide) rfl (by decide) (c_m_twosMany N M) rfl (by decide) (by decide) rfl (Nat.le_of_ble_eq_true rfl) dX12_count_115 (fun r15 => ?_)
    exact z_ireturn (pc := 118) hR rfl rfl dX12_count_118 rfl
  refine z_tsw (pc := 1) (tgt := 119) (j := 9) (y := 9) hR dX12_count_1 rfl rfl (by decide) (by decide) ?_ (fun hs16 => ?_)
  · refine z_aload_n (pc := 119) hR 0 dX12_count_119 rfl rfl ?_
    refine z_getr (pc := 120) hR (c0 := 10) (r := 10) jf_RX12_39 kmo_0 (by decide) rfl rfl dX12_count_120 ?_
    refine z_bipush (pc := 123) hR dX12_count_123 rfl ?_
    refine z_iald (pc := 125) hR (n := 112) kma_10 (by decide) (by decide) dX12_count_125 ?_
    exact z_ireturn (pc := 126) hR rfl rfl dX12_count_126 rfl
  refine z_tsw (pc := 1) (tgt := 127) (j := 10) (y := 10) hR dX12_count_1 rfl rfl (by decide) (by decide) ?_ (fun hs17 => ?_)
  · refine z_aload_n (pc := 127) hR 0 dX12_count_127 rfl rfl ?_
    refine z_geti (pc := 128) hR (j := 26) jf_RX12_277 kmo_0 (by decide) rfl rfl dX12_count_128 ?_
    exact z_ireturn (pc := 131) hR rfl rfl dX12_count_131 rfl
  refine z_tsw (pc := 1) (tgt := 132) (j := 11) (y := 11) hR dX12_count_1 rfl rfl (by decide) (by decide) ?_ (fun hs18 => ?_)
  · refine z_aload_n (pc := 132) hR 0 dX12_count_132 rfl rfl ?_
    refine z_geti (pc := 133) hR (j := 22) jf_RX12_474 kmo_0 (by decide) rfl rfl dX12_count_133 ?_
    exact z_ireturn (pc := 136) hR rfl rfl dX12_count_136 rfl
  refine z_tsw (pc := 1) (tgt := 137) (j := 12) (y := 12) hR dX12_count_1 rfl rfl (by decide) (by decide) ?_ (fun hs19 => ?_)
  · refine z_aload_n (pc := 137) hR 0 dX12_count_137 rfl rfl ?_
    refine z_geti (pc := 138) hR (j := 1) jf_RX12_89 kmo_0 (by decide) rfl rfl dX12_count_138 ?_
    exact z_ireturn (pc := 141) hR rfl rfl dX12_count_141 rfl
  refine z_tswd (pc := 1) (tgt := 142) hR dX12_count_1 (by omega) (by decide) ?_
  refine z_iconst (pc := 142) hR dX12_count_142 rfl ?_
  exact z_ireturn (pc := 143) hR rfl rfl dX12_count_143 rfl
theorem dX12_image_0 : decode cX12_image 0 = .ok (.iload_n 1, 1) := by decide +kernel
theorem dX12_image_1 : decode cX12_image 1 = .ok (.i2l, 1) := by decide +kernel
theorem dX12_image_2 : decode cX12_image 2 = .ok (.lconst 0, 1) := by decide +kernel
theorem dX12_image_3 : decode cX12_image 3 = .ok (.ldc2_w 411, 3) := by decide +kernel
theorem dX12_image_6 : decode cX12_image 6 = .ok (.invokestatic 127, 3) := by decide +kernel
theorem dX12_image_9 : decode cX12_image 9 = .ok (.ifCond .ne 5, 3) := by decide +kernel
theorem dX12_image_12 : decode cX12_image 12 = .ok (.iconst (-1), 1) := by decide +kernel
theorem dX12_image_13 : decode cX12_image 13 = .ok (.ireturn, 1) := by decide +kernel
theorem dX12_image_14 : decode cX12_image 14 = .ok (.aload_n 0, 1) := by decide +kernel
theorem dX12_image_15 : decode cX12_image 15 = .ok (.getfield 86, 3) := by decide +kernel
theorem dX12_image_18 : decode cX12_image 18 = .ok (.iload_n 1, 1) := by decide +kernel
theorem dX12_image_19 : decode cX12_image 19 = .ok (.iconst 1, 1) := by decide +kernel
theorem dX12_image_20 : decode cX12_image 20 = .ok (.bastore, 1) := by decide +kernel
theorem dX12_image_21 : decode cX12_image 21 = .ok (.aload_n 0, 1) := by decide +kernel
theorem dX12_image_22 : decode cX12_image 22 = .ok (.getfield 80, 3) := by decide +kernel
theorem dX12_image_25 : decode cX12_image 25 = .ok (.iload_n 1, 1) := by decide +kernel
theorem dX12_image_26 : decode cX12_image 26 = .ok (.aload_n 0, 1) := by decide +kernel
theorem dX12_image_27 : decode cX12_image 27 = .ok (.getfield 42, 3) := by decide +kernel
theorem dX12_image_30 : decode cX12_image 30 = .ok (.iastore, 1) := by decide +kernel
theorem dX12_image_31 : decode cX12_image 31 = .ok (.aload_n 0, 1) := by decide +kernel
theorem dX12_image_32 : decode cX12_image 32 = .ok (.getfield 83, 3) := by decide +kernel
theorem dX12_image_35 : decode cX12_image 35 = .ok (.iload_n 1, 1) := by decide +kernel
theorem dX12_image_36 : decode cX12_image 36 = .ok (.aload_n 0, 1) := by decide +kernel
theorem dX12_image_37 : decode cX12_image 37 = .ok (.getfield 474, 3) := by decide +kernel
theorem dX12_image_40 : decode cX12_image 40 = .ok (.iastore, 1) := by decide +kernel
theorem dX12_image_41 : decode cX12_image 41 = .ok (.iconst 0, 1) := by decide +kernel
theorem dX12_image_42 : decode cX12_image 42 = .ok (.istore_n 2, 1) := by decide +kernel
theorem dX12_image_43 : decode cX12_image 43 = .ok (.iload_n 2, 1) := by decide +kernel
theorem dX12_image_44 : decode cX12_image 44 = .ok (.bipush 112, 2) := by decide +kernel
theorem dX12_image_46 : decode cX12_image 46 = .ok (.if_icmp .ge 26, 3) := by decide +kernel
theorem dX12_image_49 : decode cX12_image 49 = .ok (.aload_n 0, 1) := by decide +kernel
theorem dX12_image_50 : decode cX12_image 50 = .ok (.getfield 77, 3) := by decide +kernel
theorem dX12_image_53 : decode cX12_image 53 = .ok (.bipush 112, 2) := by decide +kernel
theorem dX12_image_55 : decode cX12_image 55 = .ok (.iload_n 1, 1) := by decide +kernel
theorem dX12_image_56 : decode cX12_image 56 = .ok (.imul, 1) := by decide +kernel
theorem dX12_image_57 : decode cX12_image 57 = .ok (.iload_n 2, 1) := by decide +kernel
theorem dX12_image_58 : decode cX12_image 58 = .ok (.iadd, 1) := by decide +kernel
theorem dX12_image_59 : decode cX12_image 59 = .ok (.aload_n 0, 1) := by decide +kernel
theorem dX12_image_60 : decode cX12_image 60 = .ok (.getfield 39, 3) := by decide +kernel
theorem dX12_image_63 : decode cX12_image 63 = .ok (.iload_n 2, 1) := by decide +kernel
theorem dX12_image_64 : decode cX12_image 64 = .ok (.iaload, 1) := by decide +kernel
theorem dX12_image_65 : decode cX12_image 65 = .ok (.iastore, 1) := by decide +kernel
theorem dX12_image_66 : decode cX12_image 66 = .ok (.iinc 2 1, 3) := by decide +kernel
theorem dX12_image_69 : decode cX12_image 69 = .ok (.goto (-26), 3) := by decide +kernel
theorem dX12_image_72 : decode cX12_image 72 = .ok (.aload_n 0, 1) := by decide +kernel
theorem dX12_image_73 : decode cX12_image 73 = .ok (.getfield 39, 3) := by decide +kernel
theorem dX12_image_76 : decode cX12_image 76 = .ok (.bipush 10, 2) := by decide +kernel
theorem dX12_image_78 : decode cX12_image 78 = .ok (.iaload, 1) := by decide +kernel
theorem dX12_image_79 : decode cX12_image 79 = .ok (.ireturn, 1) := by decide +kernel
def m_image_L43 (N : Nat) (a1 : Int) (h43 : (Int × jMem) → Option (Int × jMem)) : Int × jMem → Option (Int × jMem)
  | (x8, M9) => (if x8 < 112 then jchk (0 ≤ x8 ∧ x8 < 112) <| jchk (0 ≤ (w32 (((w32 (112 * a1))) + x8)) ∧ (w32 (((w32 (112 * a1))) + x8)) < 448) <| jlt (up M9 21 ((w32 (((w32 (112 * a1))) + x8))) ((M9 10 x8))) fun M12 => h43 ((w32 (x8 + 1)), M12) else some ((M9 10 10), M9))
def m_image (N : Nat) (a1 : Int) (M : jMem) : Option (Int × jMem) := (m_in N a1 0 3 M).bind fun r1 => (if r1 = 0 then some ((-1), M) else jchk (0 ≤ a1 ∧ a1 < 4) <| jlt (up M 24 a1 1) fun M3 => jchk (0 ≤ a1 ∧ a1 < 4) <| jlt (up M3 22 a1 ((M3 0 21))) fun M5 => jchk (0 ≤ a1 ∧ a1 < 4) <| jlt (up M5 23 a1 ((M5 0 22))) fun M7 => jfix N (m_image_L43 N a1) (0, M7))
theorem c_m_image {l : Launch} {g : jG} (N : Nat) (a1 : Int) (M : jMem)  : ∀ o, m_image N a1 M = some o → jCt l g jTM yX12_image cX12_image 3 (some .int) 0 3 [(2, 0), (0, a1)] M o := by
  refine jMet (own := RX12) (em := id) (L := [(0, 2, 0), (1, 0, a1)]) (by decide +kernel) rfl (Nat.le_of_ble_eq_true rfl) rfl (fun K hR => ?_)
  unfold m_image
  refine z_iload_n (pc := 0) hR 1 dX12_image_0 rfl rfl ?_
  refine z_i2l (pc := 1) hR dX12_image_1 ?_
  refine z_lconst (pc := 2) hR (x := 0) dX12_image_2 rfl ?_
  refine z_ldc2 (pc := 3) hR (n := 3) jc_RX12_411 (by decide) rfl dX12_image_3 ?_
  refine z_callsp (pc := 6) hR (As := [(1, a1), (1, 0), (1, 3)]) (st := []) jm_X12_in jl_RX12_127 (by decide) (c_m_in N a1 0 3 M) rfl (by decide) (by decide) rfl (Nat.le_of_ble_eq_true rfl) dX12_image_6 (fun r1 => ?_)
  refine z_ifne (pc := 9) (tgt := 14) hR dX12_image_9 (by decide) ?_ ?_
  · refine z_aload_n (pc := 14) hR 0 dX12_image_14 rfl rfl ?_
    refine z_getr (pc := 15) hR (c0 := 24) (r := 24) jf_RX12_86 kmo_0 (by decide) rfl rfl dX12_image_15 ?_
    refine z_iload_n (pc := 18) hR 1 dX12_image_18 rfl rfl ?_
    refine z_iconst (pc := 19) hR dX12_image_19 rfl ?_
    refine z_chk (fun hc2 => ?_)
    refine z_zast (pc := 20) hR (n := 4) kma_24 hc2.1 hc2.2 (by decide) dX12_image_20 (fun M3 => ?_)
    refine z_aload_n (pc := 21) hR 0 dX12_image_21 rfl rfl ?_
    refine z_getr (pc := 22) hR (c0 := 22) (r := 22) jf_RX12_80 kmo_0 (by decide) rfl rfl dX12_image_22 ?_
    refine z_iload_n (pc := 25) hR 1 dX12_image_25 rfl rfl ?_
    refine z_aload_n (pc := 26) hR 0 dX12_image_26 rfl rfl ?_
    refine z_geti (pc := 27) hR (j := 21) jf_RX12_42 kmo_0 (by decide) rfl rfl dX12_image_27 ?_
    refine z_chk (fun hc4 => ?_)
    refine z_iast (pc := 30) hR (n := 4) kma_22 hc4.1 hc4.2 dX12_image_30 (fun M5 => ?_)
    refine z_aload_n (pc := 31) hR 0 dX12_image_31 rfl rfl ?_
    refine z_getr (pc := 32) hR (c0 := 23) (r := 23) jf_RX12_83 kmo_0 (by decide) rfl rfl dX12_image_32 ?_
    refine z_iload_n (pc := 35) hR 1 dX12_image_35 rfl rfl ?_
    refine z_aload_n (pc := 36) hR 0 dX12_image_36 rfl rfl ?_
    refine z_geti (pc := 37) hR (j := 22) jf_RX12_474 kmo_0 (by decide) rfl rfl dX12_image_37 ?_
    refine z_chk (fun hc6 => ?_)
    refine z_iast (pc := 40) hR (n := 4) kma_23 hc6.1 hc6.2 dX12_image_40 (fun M7 => ?_)
    refine z_iconst (pc := 41) hR dX12_image_41 rfl ?_
    refine z_istore_n (pc := 42) hR (lv' := [(2, 0, 0), (0, 2, 0), (1, 0, a1)]) dX12_image_42 rfl (by decide) rfl ?_
    refine z_pick (pc := 43) (lv' := [(0, 2, 0), (1, 0, a1), (2, 0, 0)]) hR [1, 2, 0] rfl ?_
    refine z_fix (σ := Int × jMem) (lv := fun s => [(0, 2, 0), (1, 0, a1), (2, 0, s.1)]) (st := fun _ => []) (M := fun s => s.2) (fun h43 hh43 => ?_) N (0, M7)
    rintro ⟨x8, M9⟩
    show jZ K id 43 [(0, 2, 0), (1, 0, a1), (2, 0, x8)] [] M9 _
    unfold m_image_L43
    refine z_iload_n (pc := 43) hR 2 dX12_image_43 rfl rfl ?_
    refine z_bipush (pc := 44) hR dX12_image_44 rfl ?_
    refine z_icmpge (pc := 46) (tgt := 72) hR dX12_image_46 (by decide) ?_ ?_
    · refine z_aload_n (pc := 72) hR 0 dX12_image_72 rfl rfl ?_
      refine z_getr (pc := 73) hR (c0 := 10) (r := 10) jf_RX12_39 kmo_0 (by decide) rfl rfl dX12_image_73 ?_
      refine z_bipush (pc := 76) hR dX12_image_76 rfl ?_
      refine z_iald (pc := 78) hR (n := 112) kma_10 (by decide) (by decide) dX12_image_78 ?_
      exact z_ireturn (pc := 79) hR rfl rfl dX12_image_79 rfl
    · refine z_aload_n (pc := 49) hR 0 dX12_image_49 rfl rfl ?_
      refine z_getr (pc := 50) hR (c0 := 21) (r := 21) jf_RX12_77 kmo_0 (by decide) rfl rfl dX12_image_50 ?_
      refine z_bipush (pc := 53) hR dX12_image_53 rfl ?_
      refine z_iload_n (pc := 55) hR 1 dX12_image_55 rfl rfl ?_
      refine z_imul (pc := 56) hR dX12_image_56 ?_
      refine z_iload_n (pc := 57) hR 2 dX12_image_57 rfl rfl ?_
      refine z_iadd (pc := 58) hR dX12_image_58 ?_
      refine z_aload_n (pc := 59) hR 0 dX12_image_59 rfl rfl ?_
      refine z_getr (pc := 60) hR (c0 := 10) (r := 10) jf_RX12_39 kmo_0 (by decide) rfl rfl dX12_image_60 ?_
      refine z_iload_n (pc := 63) hR 2 dX12_image_63 rfl rfl ?_
      refine z_chk (fun hc10 => ?_)
      refine z_iald (pc := 64) hR (n := 112) kma_10 hc10.1 hc10.2 dX12_image_64 ?_
      refine z_chk (fun hc11 => ?_)
      refine z_iast (pc := 65) hR (n := 448) kma_21 hc11.1 hc11.2 dX12_image_65 (fun M12 => ?_)
      refine z_iinc (pc := 66) hR (j := 2) (lv' := [(2, 0, (w32 (x8 + 1))), (0, 2, 0), (1, 0, a1)]) dX12_image_66 rfl (by decide) rfl ?_
      refine z_goto (pc := 69) (tgt := 43) hR dX12_image_69 (by decide) ?_
      refine z_pick (pc := 43) (lv' := [(0, 2, 0), (1, 0, a1), (2, 0, (w32 (x8 + 1)))]) hR [1, 2, 0] rfl ?_
      exact hh43 ((w32 (x8 + 1)), M12)
  · refine z_iconst (pc := 12) hR dX12_image_12 rfl ?_
    exact z_ireturn (pc := 13) hR rfl rfl dX12_image_13 rfl
theorem dX12_back_0 : decode cX12_back 0 = .ok (.iload_n 1, 1) := by decide +kernel
theorem dX12_back_1 : decode cX12_back 1 = .ok (.i2l, 1) := by decide +kernel
theorem dX12_back_2 : decode cX12_back 2 = .ok (.lconst 0, 1) := by decide +kernel
theorem dX12_back_3 : decode cX12_back 3 = .ok (.ldc2_w 411, 3) := by decide +kernel
theorem dX12_back_6 : decode cX12_back 6 = .ok (.invokestatic 127, 3) := by decide +kernel
theorem dX12_back_9 : decode cX12_back 9 = .ok (.ifCond .eq 12, 3) := by decide +kernel
theorem dX12_back_12 : decode cX12_back 12 = .ok (.aload_n 0, 1) := by decide +kernel
theorem dX12_back_13 : decode cX12_back 13 = .ok (.getfield 86, 3) := by decide +kernel
theorem dX12_back_16 : decode cX12_back 16 = .ok (.iload_n 1, 1) := by decide +kernel
theorem dX12_back_17 : decode cX12_back 17 = .ok (.baload, 1) := by decide +kernel
theorem dX12_back_18 : decode cX12_back 18 = .ok (.ifCond .ne 5, 3) := by decide +kernel
theorem dX12_back_21 : decode cX12_back 21 = .ok (.iconst (-1), 1) := by decide +kernel
theorem dX12_back_22 : decode cX12_back 22 = .ok (.ireturn, 1) := by decide +kernel
theorem dX12_back_23 : decode cX12_back 23 = .ok (.aload_n 0, 1) := by decide +kernel
theorem dX12_back_24 : decode cX12_back 24 = .ok (.aload_n 0, 1) := by decide +kernel
theorem dX12_back_25 : decode cX12_back 25 = .ok (.getfield 80, 3) := by decide +kernel
theorem dX12_back_28 : decode cX12_back 28 = .ok (.iload_n 1, 1) := by decide +kernel
theorem dX12_back_29 : decode cX12_back 29 = .ok (.iaload, 1) := by decide +kernel
theorem dX12_back_30 : decode cX12_back 30 = .ok (.putfield 42, 3) := by decide +kernel
theorem dX12_back_33 : decode cX12_back 33 = .ok (.aload_n 0, 1) := by decide +kernel
theorem dX12_back_34 : decode cX12_back 34 = .ok (.aload_n 0, 1) := by decide +kernel
theorem dX12_back_35 : decode cX12_back 35 = .ok (.getfield 83, 3) := by decide +kernel
theorem dX12_back_38 : decode cX12_back 38 = .ok (.iload_n 1, 1) := by decide +kernel
theorem dX12_back_39 : decode cX12_back 39 = .ok (.iaload, 1) := by decide +kernel
theorem dX12_back_40 : decode cX12_back 40 = .ok (.putfield 474, 3) := by decide +kernel
theorem dX12_back_43 : decode cX12_back 43 = .ok (.aload_n 0, 1) := by decide +kernel
theorem dX12_back_44 : decode cX12_back 44 = .ok (.iconst 0, 1) := by decide +kernel
theorem dX12_back_45 : decode cX12_back 45 = .ok (.putfield 277, 3) := by decide +kernel
theorem dX12_back_48 : decode cX12_back 48 = .ok (.iconst 0, 1) := by decide +kernel
theorem dX12_back_49 : decode cX12_back 49 = .ok (.istore_n 2, 1) := by decide +kernel
theorem dX12_back_50 : decode cX12_back 50 = .ok (.iload_n 2, 1) := by decide +kernel
theorem dX12_back_51 : decode cX12_back 51 = .ok (.bipush 112, 2) := by decide +kernel
theorem dX12_back_53 : decode cX12_back 53 = .ok (.if_icmp .ge 26, 3) := by decide +kernel
theorem dX12_back_56 : decode cX12_back 56 = .ok (.aload_n 0, 1) := by decide +kernel
theorem dX12_back_57 : decode cX12_back 57 = .ok (.getfield 39, 3) := by decide +kernel
theorem dX12_back_60 : decode cX12_back 60 = .ok (.iload_n 2, 1) := by decide +kernel
theorem dX12_back_61 : decode cX12_back 61 = .ok (.aload_n 0, 1) := by decide +kernel
theorem dX12_back_62 : decode cX12_back 62 = .ok (.getfield 77, 3) := by decide +kernel
theorem dX12_back_65 : decode cX12_back 65 = .ok (.bipush 112, 2) := by decide +kernel
theorem dX12_back_67 : decode cX12_back 67 = .ok (.iload_n 1, 1) := by decide +kernel
theorem dX12_back_68 : decode cX12_back 68 = .ok (.imul, 1) := by decide +kernel
theorem dX12_back_69 : decode cX12_back 69 = .ok (.iload_n 2, 1) := by decide +kernel
theorem dX12_back_70 : decode cX12_back 70 = .ok (.iadd, 1) := by decide +kernel
theorem dX12_back_71 : decode cX12_back 71 = .ok (.iaload, 1) := by decide +kernel
theorem dX12_back_72 : decode cX12_back 72 = .ok (.iastore, 1) := by decide +kernel
theorem dX12_back_73 : decode cX12_back 73 = .ok (.iinc 2 1, 3) := by decide +kernel
theorem dX12_back_76 : decode cX12_back 76 = .ok (.goto (-26), 3) := by decide +kernel
theorem dX12_back_79 : decode cX12_back 79 = .ok (.aload_n 0, 1) := by decide +kernel
theorem dX12_back_80 : decode cX12_back 80 = .ok (.getfield 39, 3) := by decide +kernel
theorem dX12_back_83 : decode cX12_back 83 = .ok (.bipush 10, 2) := by decide +kernel
theorem dX12_back_85 : decode cX12_back 85 = .ok (.iaload, 1) := by decide +kernel
theorem dX12_back_86 : decode cX12_back 86 = .ok (.ireturn, 1) := by decide +kernel
def m_back_L50 (N : Nat) (a1 : Int) (h50 : (Int × jMem) → Option (Int × jMem)) : Int × jMem → Option (Int × jMem)
  | (x8, M9) => (if x8 < 112 then jchk (0 ≤ (w32 (((w32 (112 * a1))) + x8)) ∧ (w32 (((w32 (112 * a1))) + x8)) < 448) <| jchk (0 ≤ x8 ∧ x8 < 112) <| jlt (up M9 10 x8 ((M9 21 ((w32 (((w32 (112 * a1))) + x8)))))) fun M12 => h50 ((w32 (x8 + 1)), M12) else some ((M9 10 10), M9))
def m_back (N : Nat) (a1 : Int) (M : jMem) : Option (Int × jMem) := (m_in N a1 0 3 M).bind fun r1 => (if r1 = 0 then some ((-1), M) else jchk (0 ≤ a1 ∧ a1 < 4) <| (if (M 24 a1) = 0 then some ((-1), M) else jchk (0 ≤ a1 ∧ a1 < 4) <| jlt (up M 0 21 ((M 22 a1))) fun M4 => jchk (0 ≤ a1 ∧ a1 < 4) <| jlt (up M4 0 22 ((M4 23 a1))) fun M6 => jlt (up M6 0 26 0) fun M7 => jfix N (m_back_L50 N a1) (0, M7)))
theorem c_m_back {l : Launch} {g : jG} (N : Nat) (a1 : Int) (M : jMem)  : ∀ o, m_back N a1 M = some o → jCt l g jTM yX12_back cX12_back 3 (some .int) 0 3 [(2, 0), (0, a1)] M o := by
  refine jMet (own := RX12) (em := id) (L := [(0, 2, 0), (1, 0, a1)]) (by decide +kernel) rfl (Nat.le_of_ble_eq_true rfl) rfl (fun K hR => ?_)
  unfold m_back
  refine z_iload_n (pc := 0) hR 1 dX12_back_0 rfl rfl ?_
  refine z_i2l (pc := 1) hR dX12_back_1 ?_
  refine z_lconst (pc := 2) hR (x := 0) dX12_back_2 rfl ?_
  refine z_ldc2 (pc := 3) hR (n := 3) jc_RX12_411 (by decide) rfl dX12_back_3 ?_
  refine z_callsp (pc := 6) hR (As := [(1, a1), (1, 0), (1, 3)]) (st := []) jm_X12_in jl_RX12_127 (by decide) (c_m_in N a1 0 3 M) rfl (by decide) (by decide) rfl (Nat.le_of_ble_eq_true rfl) dX12_back_6 (fun r1 => ?_)
  refine z_ifeq (pc := 9) (tgt := 21) hR dX12_back_9 (by decide) ?_ ?_
  · refine z_iconst (pc := 21) hR dX12_back_21 rfl ?_
    exact z_ireturn (pc := 22) hR rfl rfl dX12_back_22 rfl
  · refine z_aload_n (pc := 12) hR 0 dX12_back_12 rfl rfl ?_
    refine z_getr (pc := 13) hR (c0 := 24) (r := 24) jf_RX12_86 kmo_0 (by decide) rfl rfl dX12_back_13 ?_
    refine z_iload_n (pc := 16) hR 1 dX12_back_16 rfl rfl ?_
    refine z_chk (fun hc2 => ?_)
    refine z_zald (pc := 17) hR (n := 4) kma_24 hc2.1 hc2.2 dX12_back_17 ?_
    refine z_ifne (pc := 18) (tgt := 23) hR dX12_back_18 (by decide) ?_ ?_
    · refine z_aload_n (pc := 23) hR 0 dX12_back_23 rfl rfl ?_
      refine z_aload_n (pc := 24) hR 0 dX12_back_24 rfl rfl ?_
      refine z_getr (pc := 25) hR (c0 := 22) (r := 22) jf_RX12_80 kmo_0 (by decide) rfl rfl dX12_back_25 ?_
      refine z_iload_n (pc := 28) hR 1 dX12_back_28 rfl rfl ?_
      refine z_chk (fun hc3 => ?_)
      refine z_iald (pc := 29) hR (n := 4) kma_22 hc3.1 hc3.2 dX12_back_29 ?_
      refine z_puti (pc := 30) hR (j := 21) jp_RX12_42 kmo_0 (by decide) rfl rfl rfl rfl dX12_back_30 (fun M4 => ?_)
      refine z_aload_n (pc := 33) hR 0 dX12_back_33 rfl rfl ?_
      refine z_aload_n (pc := 34) hR 0 dX12_back_34 rfl rfl ?_
      refine z_getr (pc := 35) hR (c0 := 23) (r := 23) jf_RX12_83 kmo_0 (by decide) rfl rfl dX12_back_35 ?_
      refine z_iload_n (pc := 38) hR 1 dX12_back_38 rfl rfl ?_
      refine z_chk (fun hc5 => ?_)
      refine z_iald (pc := 39) hR (n := 4) kma_23 hc5.1 hc5.2 dX12_back_39 ?_
      refine z_puti (pc := 40) hR (j := 22) jp_RX12_474 kmo_0 (by decide) rfl rfl rfl rfl dX12_back_40 (fun M6 => ?_)
      refine z_aload_n (pc := 43) hR 0 dX12_back_43 rfl rfl ?_
      refine z_iconst (pc := 44) hR dX12_back_44 rfl ?_
      refine z_puti (pc := 45) hR (j := 26) jp_RX12_277 kmo_0 (by decide) rfl rfl rfl rfl dX12_back_45 (fun M7 => ?_)
      refine z_iconst (pc := 48) hR dX12_back_48 rfl ?_
      refine z_istore_n (pc := 49) hR (lv' := [(2, 0, 0), (0, 2, 0), (1, 0, a1)]) dX12_back_49 rfl (by decide) rfl ?_
      refine z_pick (pc := 50) (lv' := [(0, 2, 0), (1, 0, a1), (2, 0, 0)]) hR [1, 2, 0] rfl ?_
      refine z_fix (σ := Int × jMem) (lv := fun s => [(0, 2, 0), (1, 0, a1), (2, 0, s.1)]) (st := fun _ => []) (M := fun s => s.2) (fun h50 hh50 => ?_) N (0, M7)
      rintro ⟨x8, M9⟩
      show jZ K id 50 [(0, 2, 0), (1, 0, a1), (2, 0, x8)] [] M9 _
      unfold m_back_L50
      refine z_iload_n (pc := 50) hR 2 dX12_back_50 rfl rfl ?_
      refine z_bipush (pc := 51) hR dX12_back_51 rfl ?_
      refine z_icmpge (pc := 53) (tgt := 79) hR dX12_back_53 (by decide) ?_ ?_
      · refine z_aload_n (pc := 79) hR 0 dX12_back_79 rfl rfl ?_
        refine z_getr (pc := 80) hR (c0 := 10) (r := 10) jf_RX12_39 kmo_0 (by decide) rfl rfl dX12_back_80 ?_
        refine z_bipush (pc := 83) hR dX12_back_83 rfl ?_
        refine z_iald (pc := 85) hR (n := 112) kma_10 (by decide) (by decide) dX12_back_85 ?_
        exact z_ireturn (pc := 86) hR rfl rfl dX12_back_86 rfl
      · refine z_aload_n (pc := 56) hR 0 dX12_back_56 rfl rfl ?_
        refine z_getr (pc := 57) hR (c0 := 10) (r := 10) jf_RX12_39 kmo_0 (by decide) rfl rfl dX12_back_57 ?_
        refine z_iload_n (pc := 60) hR 2 dX12_back_60 rfl rfl ?_
        refine z_aload_n (pc := 61) hR 0 dX12_back_61 rfl rfl ?_
        refine z_getr (pc := 62) hR (c0 := 21) (r := 21) jf_RX12_77 kmo_0 (by decide) rfl rfl dX12_back_62 ?_
        refine z_bipush (pc := 65) hR dX12_back_65 rfl ?_
        refine z_iload_n (pc := 67) hR 1 dX12_back_67 rfl rfl ?_
        refine z_imul (pc := 68) hR dX12_back_68 ?_
        refine z_iload_n (pc := 69) hR 2 dX12_back_69 rfl rfl ?_
        refine z_iadd (pc := 70) hR dX12_back_70 ?_
        refine z_chk (fun hc10 => ?_)
        refine z_iald (pc := 71) hR (n := 448) kma_21 hc10.1 hc10.2 dX12_back_71 ?_
        refine z_chk (fun hc11 => ?_)
        refine z_iast (pc := 72) hR (n := 112) kma_10 hc11.1 hc11.2 dX12_back_72 (fun M12 => ?_)
        refine z_iinc (pc := 73) hR (j := 2) (lv' := [(2, 0, (w32 (x8 + 1))), (0, 2, 0), (1, 0, a1)]) dX12_back_73 rfl (by decide) rfl ?_
        refine z_goto (pc := 76) (tgt := 50) hR dX12_back_76 (by decide) ?_
        refine z_pick (pc := 50) (lv' := [(0, 2, 0), (1, 0, a1), (2, 0, (w32 (x8 + 1)))]) hR [1, 2, 0] rfl ?_
        exact hh50 ((w32 (x8 + 1)), M12)
    · refine z_iconst (pc := 21) hR dX12_back_21 rfl ?_
      exact z_ireturn (pc := 22) hR rfl rfl dX12_back_22 rfl
