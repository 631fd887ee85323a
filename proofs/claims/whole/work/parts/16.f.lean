theorem dX12_summedBy_0 : decode cX12_summedBy 0 = .ok (.iconst 0, 1) := by decide +kernel
theorem dX12_summedBy_1 : decode cX12_summedBy 1 = .ok (.istore_n 2, 1) := by decide +kernel
theorem dX12_summedBy_2 : decode cX12_summedBy 2 = .ok (.iload_n 2, 1) := by decide +kernel
theorem dX12_summedBy_3 : decode cX12_summedBy 3 = .ok (.aload_n 0, 1) := by decide +kernel
theorem dX12_summedBy_4 : decode cX12_summedBy 4 = .ok (.getfield 23, 3) := by decide +kernel
theorem dX12_summedBy_7 : decode cX12_summedBy 7 = .ok (.iload_n 1, 1) := by decide +kernel
theorem dX12_summedBy_8 : decode cX12_summedBy 8 = .ok (.iaload, 1) := by decide +kernel
theorem dX12_summedBy_9 : decode cX12_summedBy 9 = .ok (.if_icmp .ge 75, 3) := by decide +kernel
theorem dX12_summedBy_12 : decode cX12_summedBy 12 = .ok (.bipush 48, 2) := by decide +kernel
theorem dX12_summedBy_14 : decode cX12_summedBy 14 = .ok (.iload_n 1, 1) := by decide +kernel
theorem dX12_summedBy_15 : decode cX12_summedBy 15 = .ok (.imul, 1) := by decide +kernel
theorem dX12_summedBy_16 : decode cX12_summedBy 16 = .ok (.iconst 4, 1) := by decide +kernel
theorem dX12_summedBy_17 : decode cX12_summedBy 17 = .ok (.iload_n 2, 1) := by decide +kernel
theorem dX12_summedBy_18 : decode cX12_summedBy 18 = .ok (.imul, 1) := by decide +kernel
theorem dX12_summedBy_19 : decode cX12_summedBy 19 = .ok (.iadd, 1) := by decide +kernel
theorem dX12_summedBy_20 : decode cX12_summedBy 20 = .ok (.istore_n 3, 1) := by decide +kernel
theorem dX12_summedBy_21 : decode cX12_summedBy 21 = .ok (.aload_n 0, 1) := by decide +kernel
theorem dX12_summedBy_22 : decode cX12_summedBy 22 = .ok (.getfield 20, 3) := by decide +kernel
theorem dX12_summedBy_25 : decode cX12_summedBy 25 = .ok (.iload_n 3, 1) := by decide +kernel
theorem dX12_summedBy_26 : decode cX12_summedBy 26 = .ok (.iconst 2, 1) := by decide +kernel
theorem dX12_summedBy_27 : decode cX12_summedBy 27 = .ok (.iadd, 1) := by decide +kernel
theorem dX12_summedBy_28 : decode cX12_summedBy 28 = .ok (.iaload, 1) := by decide +kernel
theorem dX12_summedBy_29 : decode cX12_summedBy 29 = .ok (.ifCond .lt 29, 3) := by decide +kernel
theorem dX12_summedBy_32 : decode cX12_summedBy 32 = .ok (.aload_n 0, 1) := by decide +kernel
theorem dX12_summedBy_33 : decode cX12_summedBy 33 = .ok (.iload_n 1, 1) := by decide +kernel
theorem dX12_summedBy_34 : decode cX12_summedBy 34 = .ok (.aload_n 0, 1) := by decide +kernel
theorem dX12_summedBy_35 : decode cX12_summedBy 35 = .ok (.getfield 20, 3) := by decide +kernel
theorem dX12_summedBy_38 : decode cX12_summedBy 38 = .ok (.iload_n 3, 1) := by decide +kernel
theorem dX12_summedBy_39 : decode cX12_summedBy 39 = .ok (.iconst 2, 1) := by decide +kernel
theorem dX12_summedBy_40 : decode cX12_summedBy 40 = .ok (.iadd, 1) := by decide +kernel
theorem dX12_summedBy_41 : decode cX12_summedBy 41 = .ok (.iaload, 1) := by decide +kernel
theorem dX12_summedBy_42 : decode cX12_summedBy 42 = .ok (.aload_n 0, 1) := by decide +kernel
theorem dX12_summedBy_43 : decode cX12_summedBy 43 = .ok (.getfield 20, 3) := by decide +kernel
theorem dX12_summedBy_46 : decode cX12_summedBy 46 = .ok (.iload_n 3, 1) := by decide +kernel
theorem dX12_summedBy_47 : decode cX12_summedBy 47 = .ok (.iconst 3, 1) := by decide +kernel
theorem dX12_summedBy_48 : decode cX12_summedBy 48 = .ok (.iadd, 1) := by decide +kernel
theorem dX12_summedBy_49 : decode cX12_summedBy 49 = .ok (.iaload, 1) := by decide +kernel
theorem dX12_summedBy_50 : decode cX12_summedBy 50 = .ok (.invokevirtual 319, 3) := by decide +kernel
theorem dX12_summedBy_53 : decode cX12_summedBy 53 = .ok (.lconst 1, 1) := by decide +kernel
theorem dX12_summedBy_54 : decode cX12_summedBy 54 = .ok (.lcmp, 1) := by decide +kernel
theorem dX12_summedBy_55 : decode cX12_summedBy 55 = .ok (.ifCond .ne 23, 3) := by decide +kernel
theorem dX12_summedBy_58 : decode cX12_summedBy 58 = .ok (.aload_n 0, 1) := by decide +kernel
theorem dX12_summedBy_59 : decode cX12_summedBy 59 = .ok (.iload_n 1, 1) := by decide +kernel
theorem dX12_summedBy_60 : decode cX12_summedBy 60 = .ok (.aload_n 0, 1) := by decide +kernel
theorem dX12_summedBy_61 : decode cX12_summedBy 61 = .ok (.getfield 20, 3) := by decide +kernel
theorem dX12_summedBy_64 : decode cX12_summedBy 64 = .ok (.iload_n 3, 1) := by decide +kernel
theorem dX12_summedBy_65 : decode cX12_summedBy 65 = .ok (.iaload, 1) := by decide +kernel
theorem dX12_summedBy_66 : decode cX12_summedBy 66 = .ok (.aload_n 0, 1) := by decide +kernel
theorem dX12_summedBy_67 : decode cX12_summedBy 67 = .ok (.getfield 20, 3) := by decide +kernel
theorem dX12_summedBy_70 : decode cX12_summedBy 70 = .ok (.iload_n 3, 1) := by decide +kernel
theorem dX12_summedBy_71 : decode cX12_summedBy 71 = .ok (.iconst 1, 1) := by decide +kernel
theorem dX12_summedBy_72 : decode cX12_summedBy 72 = .ok (.iadd, 1) := by decide +kernel
theorem dX12_summedBy_73 : decode cX12_summedBy 73 = .ok (.iaload, 1) := by decide +kernel
theorem dX12_summedBy_74 : decode cX12_summedBy 74 = .ok (.invokevirtual 319, 3) := by decide +kernel
theorem dX12_summedBy_77 : decode cX12_summedBy 77 = .ok (.lreturn, 1) := by decide +kernel
theorem dX12_summedBy_78 : decode cX12_summedBy 78 = .ok (.iinc 2 1, 3) := by decide +kernel
theorem dX12_summedBy_81 : decode cX12_summedBy 81 = .ok (.goto (-79), 3) := by decide +kernel
theorem dX12_summedBy_84 : decode cX12_summedBy 84 = .ok (.lconst 0, 1) := by decide +kernel
theorem dX12_summedBy_85 : decode cX12_summedBy 85 = .ok (.lreturn, 1) := by decide +kernel
def m_summedBy_L2 (N : Nat) (a1 : Int) (h2 : (Int × jMem) → Option (Int × jMem)) : Int × jMem → Option (Int × jMem)
  | (x1, M2) => jchk (0 ≤ a1 ∧ a1 < 6) <| (if x1 < (M2 5 a1) then jlt ((w32 (((w32 (48 * a1))) + ((w32 (4 * x1)))))) fun v4 => jchk (0 ≤ (w32 (v4 + 2)) ∧ (w32 (v4 + 2)) < 288) <| jlt (fun (M6 : jMem) => jchk (0 ≤ v4 ∧ v4 < 288) <| jchk (0 ≤ (w32 (v4 + 1)) ∧ (w32 (v4 + 1)) < 288) <| jb1 (m_reckons N a1 ((M6 4 v4)) ((M6 4 ((w32 (v4 + 1))))) M6) fun r9 M10 => some (r9, M10)) fun j58 => (if (M2 4 ((w32 (v4 + 2)))) < 0 then j58 M2 else jchk (0 ≤ (w32 (v4 + 2)) ∧ (w32 (v4 + 2)) < 288) <| jchk (0 ≤ (w32 (v4 + 3)) ∧ (w32 (v4 + 3)) < 288) <| jb1 (m_reckons N a1 ((M2 4 ((w32 (v4 + 2))))) ((M2 4 ((w32 (v4 + 3))))) M2) fun r13 M14 => (if (jcmp r13 1) = 0 then j58 M14 else h2 ((w32 (x1 + 1)), M14))) else some (0, M2))
def m_summedBy (N : Nat) (a1 : Int) (M : jMem) : Option (Int × jMem) := jfix N (m_summedBy_L2 N a1) (0, M)
theorem c_m_summedBy {l : Launch} {g : jG} (N : Nat) (a1 : Int) (M : jMem)  : ∀ o, m_summedBy N a1 M = some o → jCt l g jTM yX12_summedBy cX12_summedBy 4 (some .long) 1 5 [(2, 0), (0, a1)] M o := by
  refine jMet (own := RX12) (em := id) (L := [(0, 2, 0), (1, 0, a1)]) (by decide +kernel) rfl (Nat.le_of_ble_eq_true rfl) rfl (fun K hR => ?_)
  unfold m_summedBy
  refine z_iconst (pc := 0) hR dX12_summedBy_0 rfl ?_
  refine z_istore_n (pc := 1) hR (lv' := [(2, 0, 0), (0, 2, 0), (1, 0, a1)]) dX12_summedBy_1 rfl (by decide) rfl ?_
  refine z_pick (pc := 2) (lv' := [(0, 2, 0), (1, 0, a1), (2, 0, 0)]) hR [1, 2, 0] rfl ?_
  refine z_fix (σ := Int × jMem) (lv := fun s => [(0, 2, 0), (1, 0, a1), (2, 0, s.1)]) (st := fun _ => []) (M := fun s => s.2) (fun h2 hh2 => ?_) N (0, M)
  rintro ⟨x1, M2⟩
  show jZ K id 2 [(0, 2, 0), (1, 0, a1), (2, 0, x1)] [] M2 _
  unfold m_summedBy_L2
  refine z_iload_n (pc := 2) hR 2 dX12_summedBy_2 rfl rfl ?_
  refine z_aload_n (pc := 3) hR 0 dX12_summedBy_3 rfl rfl ?_
  refine z_getr (pc := 4) hR (c0 := 5) (r := 5) jf_RX12_23 kmo_0 (by decide) rfl rfl dX12_summedBy_4 ?_
  refine z_iload_n (pc := 7) hR 1 dX12_summedBy_7 rfl rfl ?_
  refine z_chk (fun hc3 => ?_)
  refine z_iald (pc := 8) hR (n := 6) kma_5 hc3.1 hc3.2 dX12_summedBy_8 ?_
  refine z_icmpge (pc := 9) (tgt := 84) hR dX12_summedBy_9 (by decide) ?_ ?_
  · refine z_lconst (pc := 84) hR (x := 0) dX12_summedBy_84 rfl ?_
    exact z_lreturn (pc := 85) hR rfl rfl dX12_summedBy_85 rfl
  · refine z_bipush (pc := 12) hR dX12_summedBy_12 rfl ?_
    refine z_iload_n (pc := 14) hR 1 dX12_summedBy_14 rfl rfl ?_
    refine z_imul (pc := 15) hR dX12_summedBy_15 ?_
    refine z_iconst (pc := 16) hR dX12_summedBy_16 rfl ?_
    refine z_iload_n (pc := 17) hR 2 dX12_summedBy_17 rfl rfl ?_
    refine z_imul (pc := 18) hR dX12_summedBy_18 ?_
    refine z_iadd (pc := 19) hR dX12_summedBy_19 ?_
    refine z_let1 (fun v4 => ?_)
    refine z_istore_n (pc := 20) hR (lv' := [(3, 0, v4), (0, 2, 0), (1, 0, a1), (2, 0, x1)]) dX12_summedBy_20 rfl (by decide) rfl ?_
    refine z_aload_n (pc := 21) hR 1 dX12_summedBy_21 rfl rfl ?_
    refine z_getr (pc := 22) hR (c0 := 4) (r := 4) jf_RX12_20 kmo_0 (by decide) rfl rfl dX12_summedBy_22 ?_
    refine z_iload_n (pc := 25) hR 0 dX12_summedBy_25 rfl rfl ?_
    refine z_iconst (pc := 26) hR dX12_summedBy_26 rfl ?_
    refine z_iadd (pc := 27) hR dX12_summedBy_27 ?_
    refine z_chk (fun hc5 => ?_)
    refine z_iald (pc := 28) hR (n := 288) kma_4 hc5.1 hc5.2 dX12_summedBy_28 ?_
    refine z_join (P := fun j => ∀ (M6 : jMem), jZ K id 58 [(0, 2, 0), (1, 0, a1), (3, 0, v4)] [] M6 (j M6)) (fun M6 => ?_) (fun j58 hj58 => ?_)
    · refine z_aload_n (pc := 58) hR 0 dX12_summedBy_58 rfl rfl ?_
      refine z_iload_n (pc := 59) hR 1 dX12_summedBy_59 rfl rfl ?_
      refine z_aload_n (pc := 60) hR 0 dX12_summedBy_60 rfl rfl ?_
      refine z_getr (pc := 61) hR (c0 := 4) (r := 4) jf_RX12_20 kmo_0 (by decide) rfl rfl dX12_summedBy_61 ?_
      refine z_iload_n (pc := 64) hR 2 dX12_summedBy_64 rfl rfl ?_
      refine z_chk (fun hc7 => ?_)
      refine z_iald (pc := 65) hR (n := 288) kma_4 hc7.1 hc7.2 dX12_summedBy_65 ?_
      refine z_aload_n (pc := 66) hR 0 dX12_summedBy_66 rfl rfl ?_
      refine z_getr (pc := 67) hR (c0 := 4) (r := 4) jf_RX12_20 kmo_0 (by decide) rfl rfl dX12_summedBy_67 ?_
      refine z_iload_n (pc := 70) hR 2 dX12_summedBy_70 rfl rfl ?_
      refine z_iconst (pc := 71) hR dX12_summedBy_71 rfl ?_
      refine z_iadd (pc := 72) hR dX12_summedBy_72 ?_
      refine z_chk (fun hc8 => ?_)
      refine z_iald (pc := 73) hR (n := 288) kma_4 hc8.1 hc8.2 dX12_summedBy_73 ?_
      refine z_callv1 (pc := 74) hR (As := [(0, a1), (0, (M6 4 v4)), (0, (M6 4 ((w32 (v4 + 1)))))]) (st := []) jm_X12_reckons jl_RX12_319 kmo_0 (by decide) rfl (by decide) (c_m_reckons N a1 ((M6 4 v4)) ((M6 4 ((w32 (v4 + 1))))) M6) rfl (by decide) (by decide) rfl (Nat.le_of_ble_eq_true rfl) dX12_summedBy_74 (fun r9 M10 => ?_)
      exact z_lreturn (pc := 77) hR rfl rfl dX12_summedBy_77 rfl
    refine z_iflt (pc := 29) (tgt := 58) hR dX12_summedBy_29 (by decide) ?_ ?_
    · refine z_pick (pc := 58) (lv' := [(0, 2, 0), (1, 0, a1), (3, 0, v4)]) hR [1, 2, 0] rfl ?_
      exact hj58 M2
    · refine z_aload_n (pc := 32) hR 1 dX12_summedBy_32 rfl rfl ?_
      refine z_iload_n (pc := 33) hR 2 dX12_summedBy_33 rfl rfl ?_
      refine z_aload_n (pc := 34) hR 1 dX12_summedBy_34 rfl rfl ?_
      refine z_getr (pc := 35) hR (c0 := 4) (r := 4) jf_RX12_20 kmo_0 (by decide) rfl rfl dX12_summedBy_35 ?_
      refine z_iload_n (pc := 38) hR 0 dX12_summedBy_38 rfl rfl ?_
      refine z_iconst (pc := 39) hR dX12_summedBy_39 rfl ?_
      refine z_iadd (pc := 40) hR dX12_summedBy_40 ?_
      refine z_chk (fun hc11 => ?_)
      refine z_iald (pc := 41) hR (n := 288) kma_4 hc11.1 hc11.2 dX12_summedBy_41 ?_
      refine z_aload_n (pc := 42) hR 1 dX12_summedBy_42 rfl rfl ?_
      refine z_getr (pc := 43) hR (c0 := 4) (r := 4) jf_RX12_20 kmo_0 (by decide) rfl rfl dX12_summedBy_43 ?_
      refine z_iload_n (pc := 46) hR 0 dX12_summedBy_46 rfl rfl ?_
      refine z_iconst (pc := 47) hR dX12_summedBy_47 rfl ?_
      refine z_iadd (pc := 48) hR dX12_summedBy_48 ?_
      refine z_chk (fun hc12 => ?_)
      refine z_iald (pc := 49) hR (n := 288) kma_4 hc12.1 hc12.2 dX12_summedBy_49 ?_
      refine z_callv1 (pc := 50) hR (As := [(0, a1), (0, (M2 4 ((w32 (v4 + 2))))), (0, (M2 4 ((w32 (v4 + 3)))))]) (st := []) jm_X12_reckons jl_RX12_319 kmo_0 (by decide) rfl (by decide) (c_m_reckons N a1 ((M2 4 ((w32 (v4 + 2))))) ((M2 4 ((w32 (v4 + 3))))) M2) rfl (by decide) (by decide) rfl (Nat.le_of_ble_eq_true rfl) dX12_summedBy_50 (fun r13 M14 => ?_)
      refine z_lconst (pc := 53) hR (x := 1) dX12_summedBy_53 rfl ?_
      refine z_lcmp (pc := 54) hR dX12_summedBy_54 ?_
      refine z_ifne (pc := 55) (tgt := 78) hR dX12_summedBy_55 (by decide) ?_ ?_
      · refine z_iinc (pc := 78) hR (j := 3) (lv' := [(2, 0, (w32 (x1 + 1))), (3, 0, v4), (0, 2, 0), (1, 0, a1)]) dX12_summedBy_78 rfl (by decide) rfl ?_
        refine z_goto (pc := 81) (tgt := 2) hR dX12_summedBy_81 (by decide) ?_
        refine z_pick (pc := 2) (lv' := [(0, 2, 0), (1, 0, a1), (2, 0, (w32 (x1 + 1)))]) hR [2, 3, 0] rfl ?_
        exact hh2 ((w32 (x1 + 1)), M14)
      · refine z_pick (pc := 58) (lv' := [(0, 2, 0), (1, 0, a1), (3, 0, v4)]) hR [1, 2, 0] rfl ?_
        exact hj58 M14
theorem dX12_sumOf_0 : decode cX12_sumOf 0 = .ok (.aload_n 0, 1) := by decide +kernel
theorem dX12_sumOf_1 : decode cX12_sumOf 1 = .ok (.getfield 39, 3) := by decide +kernel
theorem dX12_sumOf_4 : decode cX12_sumOf 4 = .ok (.bipush 32, 2) := by decide +kernel
theorem dX12_sumOf_6 : decode cX12_sumOf 6 = .ok (.iload_n 1, 1) := by decide +kernel
theorem dX12_sumOf_7 : decode cX12_sumOf 7 = .ok (.iadd, 1) := by decide +kernel
theorem dX12_sumOf_8 : decode cX12_sumOf 8 = .ok (.iaload, 1) := by decide +kernel
theorem dX12_sumOf_9 : decode cX12_sumOf 9 = .ok (.istore_n 3, 1) := by decide +kernel
theorem dX12_sumOf_10 : decode cX12_sumOf 10 = .ok (.aload_n 0, 1) := by decide +kernel
theorem dX12_sumOf_11 : decode cX12_sumOf 11 = .ok (.getfield 39, 3) := by decide +kernel
theorem dX12_sumOf_14 : decode cX12_sumOf 14 = .ok (.bipush 32, 2) := by decide +kernel
theorem dX12_sumOf_16 : decode cX12_sumOf 16 = .ok (.iload_n 2, 1) := by decide +kernel
theorem dX12_sumOf_17 : decode cX12_sumOf 17 = .ok (.iadd, 1) := by decide +kernel
theorem dX12_sumOf_18 : decode cX12_sumOf 18 = .ok (.iaload, 1) := by decide +kernel
theorem dX12_sumOf_19 : decode cX12_sumOf 19 = .ok (.istore 4, 2) := by decide +kernel
theorem dX12_sumOf_21 : decode cX12_sumOf 21 = .ok (.aload_n 0, 1) := by decide +kernel
theorem dX12_sumOf_22 : decode cX12_sumOf 22 = .ok (.getfield 36, 3) := by decide +kernel
theorem dX12_sumOf_25 : decode cX12_sumOf 25 = .ok (.iconst 0, 1) := by decide +kernel
theorem dX12_sumOf_26 : decode cX12_sumOf 26 = .ok (.iload_n 1, 1) := by decide +kernel
theorem dX12_sumOf_27 : decode cX12_sumOf 27 = .ok (.i2l, 1) := by decide +kernel
theorem dX12_sumOf_28 : decode cX12_sumOf 28 = .ok (.lastore, 1) := by decide +kernel
theorem dX12_sumOf_29 : decode cX12_sumOf 29 = .ok (.aload_n 0, 1) := by decide +kernel
theorem dX12_sumOf_30 : decode cX12_sumOf 30 = .ok (.getfield 36, 3) := by decide +kernel
theorem dX12_sumOf_33 : decode cX12_sumOf 33 = .ok (.iconst 1, 1) := by decide +kernel
theorem dX12_sumOf_34 : decode cX12_sumOf 34 = .ok (.iload_n 2, 1) := by decide +kernel
theorem dX12_sumOf_35 : decode cX12_sumOf 35 = .ok (.i2l, 1) := by decide +kernel
theorem dX12_sumOf_36 : decode cX12_sumOf 36 = .ok (.lastore, 1) := by decide +kernel
theorem dX12_sumOf_37 : decode cX12_sumOf 37 = .ok (.aload_n 0, 1) := by decide +kernel
theorem dX12_sumOf_38 : decode cX12_sumOf 38 = .ok (.getfield 36, 3) := by decide +kernel
theorem dX12_sumOf_41 : decode cX12_sumOf 41 = .ok (.iconst 2, 1) := by decide +kernel
theorem dX12_sumOf_42 : decode cX12_sumOf 42 = .ok (.iload_n 3, 1) := by decide +kernel
theorem dX12_sumOf_43 : decode cX12_sumOf 43 = .ok (.i2l, 1) := by decide +kernel
theorem dX12_sumOf_44 : decode cX12_sumOf 44 = .ok (.lastore, 1) := by decide +kernel
theorem dX12_sumOf_45 : decode cX12_sumOf 45 = .ok (.aload_n 0, 1) := by decide +kernel
theorem dX12_sumOf_46 : decode cX12_sumOf 46 = .ok (.getfield 36, 3) := by decide +kernel
theorem dX12_sumOf_49 : decode cX12_sumOf 49 = .ok (.iconst 3, 1) := by decide +kernel
theorem dX12_sumOf_50 : decode cX12_sumOf 50 = .ok (.iload 4, 2) := by decide +kernel
theorem dX12_sumOf_52 : decode cX12_sumOf 52 = .ok (.i2l, 1) := by decide +kernel
theorem dX12_sumOf_53 : decode cX12_sumOf 53 = .ok (.lastore, 1) := by decide +kernel
theorem dX12_sumOf_54 : decode cX12_sumOf 54 = .ok (.aload_n 0, 1) := by decide +kernel
theorem dX12_sumOf_55 : decode cX12_sumOf 55 = .ok (.getfield 36, 3) := by decide +kernel
theorem dX12_sumOf_58 : decode cX12_sumOf 58 = .ok (.iconst 4, 1) := by decide +kernel
theorem dX12_sumOf_59 : decode cX12_sumOf 59 = .ok (.aload_n 0, 1) := by decide +kernel
theorem dX12_sumOf_60 : decode cX12_sumOf 60 = .ok (.getfield 39, 3) := by decide +kernel
theorem dX12_sumOf_63 : decode cX12_sumOf 63 = .ok (.bipush 18, 2) := by decide +kernel
theorem dX12_sumOf_65 : decode cX12_sumOf 65 = .ok (.iload_n 3, 1) := by decide +kernel
theorem dX12_sumOf_66 : decode cX12_sumOf 66 = .ok (.iadd, 1) := by decide +kernel
theorem dX12_sumOf_67 : decode cX12_sumOf 67 = .ok (.iaload, 1) := by decide +kernel
theorem dX12_sumOf_68 : decode cX12_sumOf 68 = .ok (.i2l, 1) := by decide +kernel
theorem dX12_sumOf_69 : decode cX12_sumOf 69 = .ok (.lastore, 1) := by decide +kernel
theorem dX12_sumOf_70 : decode cX12_sumOf 70 = .ok (.aload_n 0, 1) := by decide +kernel
theorem dX12_sumOf_71 : decode cX12_sumOf 71 = .ok (.getfield 36, 3) := by decide +kernel
theorem dX12_sumOf_74 : decode cX12_sumOf 74 = .ok (.iconst 5, 1) := by decide +kernel
theorem dX12_sumOf_75 : decode cX12_sumOf 75 = .ok (.aload_n 0, 1) := by decide +kernel
theorem dX12_sumOf_76 : decode cX12_sumOf 76 = .ok (.getfield 39, 3) := by decide +kernel
theorem dX12_sumOf_79 : decode cX12_sumOf 79 = .ok (.bipush 18, 2) := by decide +kernel
theorem dX12_sumOf_81 : decode cX12_sumOf 81 = .ok (.iload 4, 2) := by decide +kernel
theorem dX12_sumOf_83 : decode cX12_sumOf 83 = .ok (.iadd, 1) := by decide +kernel
theorem dX12_sumOf_84 : decode cX12_sumOf 84 = .ok (.iaload, 1) := by decide +kernel
theorem dX12_sumOf_85 : decode cX12_sumOf 85 = .ok (.i2l, 1) := by decide +kernel
theorem dX12_sumOf_86 : decode cX12_sumOf 86 = .ok (.lastore, 1) := by decide +kernel
theorem dX12_sumOf_87 : decode cX12_sumOf 87 = .ok (.aload_n 0, 1) := by decide +kernel
theorem dX12_sumOf_88 : decode cX12_sumOf 88 = .ok (.getfield 36, 3) := by decide +kernel
theorem dX12_sumOf_91 : decode cX12_sumOf 91 = .ok (.bipush 6, 2) := by decide +kernel
theorem dX12_sumOf_93 : decode cX12_sumOf 93 = .ok (.aload_n 0, 1) := by decide +kernel
theorem dX12_sumOf_94 : decode cX12_sumOf 94 = .ok (.getfield 39, 3) := by decide +kernel
theorem dX12_sumOf_97 : decode cX12_sumOf 97 = .ok (.bipush 25, 2) := by decide +kernel
theorem dX12_sumOf_99 : decode cX12_sumOf 99 = .ok (.iload_n 3, 1) := by decide +kernel
theorem dX12_sumOf_100 : decode cX12_sumOf 100 = .ok (.iadd, 1) := by decide +kernel
theorem dX12_sumOf_101 : decode cX12_sumOf 101 = .ok (.iaload, 1) := by decide +kernel
theorem dX12_sumOf_102 : decode cX12_sumOf 102 = .ok (.i2l, 1) := by decide +kernel
theorem dX12_sumOf_103 : decode cX12_sumOf 103 = .ok (.lastore, 1) := by decide +kernel
theorem dX12_sumOf_104 : decode cX12_sumOf 104 = .ok (.aload_n 0, 1) := by decide +kernel
theorem dX12_sumOf_105 : decode cX12_sumOf 105 = .ok (.getfield 36, 3) := by decide +kernel
theorem dX12_sumOf_108 : decode cX12_sumOf 108 = .ok (.bipush 7, 2) := by decide +kernel
theorem dX12_sumOf_110 : decode cX12_sumOf 110 = .ok (.aload_n 0, 1) := by decide +kernel
theorem dX12_sumOf_111 : decode cX12_sumOf 111 = .ok (.getfield 39, 3) := by decide +kernel
theorem dX12_sumOf_114 : decode cX12_sumOf 114 = .ok (.bipush 25, 2) := by decide +kernel
theorem dX12_sumOf_116 : decode cX12_sumOf 116 = .ok (.iload 4, 2) := by decide +kernel
theorem dX12_sumOf_118 : decode cX12_sumOf 118 = .ok (.iadd, 1) := by decide +kernel
theorem dX12_sumOf_119 : decode cX12_sumOf 119 = .ok (.iaload, 1) := by decide +kernel
theorem dX12_sumOf_120 : decode cX12_sumOf 120 = .ok (.i2l, 1) := by decide +kernel
theorem dX12_sumOf_121 : decode cX12_sumOf 121 = .ok (.lastore, 1) := by decide +kernel
theorem dX12_sumOf_122 : decode cX12_sumOf 122 = .ok (.aload_n 0, 1) := by decide +kernel
theorem dX12_sumOf_123 : decode cX12_sumOf 123 = .ok (.getfield 36, 3) := by decide +kernel
theorem dX12_sumOf_126 : decode cX12_sumOf 126 = .ok (.bipush 8, 2) := by decide +kernel
theorem dX12_sumOf_128 : decode cX12_sumOf 128 = .ok (.aload_n 0, 1) := by decide +kernel
theorem dX12_sumOf_129 : decode cX12_sumOf 129 = .ok (.getfield 39, 3) := by decide +kernel
theorem dX12_sumOf_132 : decode cX12_sumOf 132 = .ok (.bipush 39, 2) := by decide +kernel
theorem dX12_sumOf_134 : decode cX12_sumOf 134 = .ok (.iload_n 1, 1) := by decide +kernel
theorem dX12_sumOf_135 : decode cX12_sumOf 135 = .ok (.iadd, 1) := by decide +kernel
theorem dX12_sumOf_136 : decode cX12_sumOf 136 = .ok (.iaload, 1) := by decide +kernel
theorem dX12_sumOf_137 : decode cX12_sumOf 137 = .ok (.aload_n 0, 1) := by decide +kernel
theorem dX12_sumOf_138 : decode cX12_sumOf 138 = .ok (.getfield 39, 3) := by decide +kernel
theorem dX12_sumOf_141 : decode cX12_sumOf 141 = .ok (.bipush 39, 2) := by decide +kernel
theorem dX12_sumOf_143 : decode cX12_sumOf 143 = .ok (.iload_n 2, 1) := by decide +kernel
theorem dX12_sumOf_144 : decode cX12_sumOf 144 = .ok (.iadd, 1) := by decide +kernel
theorem dX12_sumOf_145 : decode cX12_sumOf 145 = .ok (.iaload, 1) := by decide +kernel
theorem dX12_sumOf_146 : decode cX12_sumOf 146 = .ok (.iadd, 1) := by decide +kernel
theorem dX12_sumOf_147 : decode cX12_sumOf 147 = .ok (.i2l, 1) := by decide +kernel
theorem dX12_sumOf_148 : decode cX12_sumOf 148 = .ok (.lastore, 1) := by decide +kernel
theorem dX12_sumOf_149 : decode cX12_sumOf 149 = .ok (.aload_n 0, 1) := by decide +kernel
theorem dX12_sumOf_150 : decode cX12_sumOf 150 = .ok (.getfield 36, 3) := by decide +kernel
theorem dX12_sumOf_153 : decode cX12_sumOf 153 = .ok (.bipush 9, 2) := by decide +kernel
theorem dX12_sumOf_155 : decode cX12_sumOf 155 = .ok (.aload_n 0, 1) := by decide +kernel
theorem dX12_sumOf_156 : decode cX12_sumOf 156 = .ok (.invokevirtual 323, 3) := by decide +kernel
theorem dX12_sumOf_159 : decode cX12_sumOf 159 = .ok (.invokestatic 326, 3) := by decide +kernel
theorem dX12_sumOf_162 : decode cX12_sumOf 162 = .ok (.i2l, 1) := by decide +kernel
theorem dX12_sumOf_163 : decode cX12_sumOf 163 = .ok (.lastore, 1) := by decide +kernel
theorem dX12_sumOf_164 : decode cX12_sumOf 164 = .ok (.aload_n 0, 1) := by decide +kernel
theorem dX12_sumOf_165 : decode cX12_sumOf 165 = .ok (.getfield 36, 3) := by decide +kernel
theorem dX12_sumOf_168 : decode cX12_sumOf 168 = .ok (.bipush 10, 2) := by decide +kernel
theorem dX12_sumOf_170 : decode cX12_sumOf 170 = .ok (.aload_n 0, 1) := by decide +kernel
theorem dX12_sumOf_171 : decode cX12_sumOf 171 = .ok (.invokevirtual 329, 3) := by decide +kernel
theorem dX12_sumOf_174 : decode cX12_sumOf 174 = .ok (.i2l, 1) := by decide +kernel
theorem dX12_sumOf_175 : decode cX12_sumOf 175 = .ok (.lastore, 1) := by decide +kernel
theorem dX12_sumOf_176 : decode cX12_sumOf 176 = .ok (.aload_n 0, 1) := by decide +kernel
theorem dX12_sumOf_177 : decode cX12_sumOf 177 = .ok (.getfield 36, 3) := by decide +kernel
theorem dX12_sumOf_180 : decode cX12_sumOf 180 = .ok (.bipush 11, 2) := by decide +kernel
theorem dX12_sumOf_182 : decode cX12_sumOf 182 = .ok (.aload_n 0, 1) := by decide +kernel
theorem dX12_sumOf_183 : decode cX12_sumOf 183 = .ok (.getfield 39, 3) := by decide +kernel
theorem dX12_sumOf_186 : decode cX12_sumOf 186 = .ok (.bipush 10, 2) := by decide +kernel
theorem dX12_sumOf_188 : decode cX12_sumOf 188 = .ok (.iaload, 1) := by decide +kernel
theorem dX12_sumOf_189 : decode cX12_sumOf 189 = .ok (.i2l, 1) := by decide +kernel
theorem dX12_sumOf_190 : decode cX12_sumOf 190 = .ok (.lastore, 1) := by decide +kernel
theorem dX12_sumOf_191 : decode cX12_sumOf 191 = .ok (.aload_n 0, 1) := by decide +kernel
theorem dX12_sumOf_192 : decode cX12_sumOf 192 = .ok (.aload_n 0, 1) := by decide +kernel
theorem dX12_sumOf_193 : decode cX12_sumOf 193 = .ok (.getfield 42, 3) := by decide +kernel
theorem dX12_sumOf_196 : decode cX12_sumOf 196 = .ok (.invokevirtual 332, 3) := by decide +kernel
theorem dX12_sumOf_199 : decode cX12_sumOf 199 = .ok (.lreturn, 1) := by decide +kernel
def m_sumOf (N : Nat) (a1 a2 : Int) (M : jMem) : Option (Int × jMem) := jchk (0 ≤ (w32 (32 + a1)) ∧ (w32 (32 + a1)) < 112) <| jlt ((M 10 ((w32 (32 + a1))))) fun v2 => jchk (0 ≤ (w32 (32 + a2)) ∧ (w32 (32 + a2)) < 112) <| jlt ((M 10 ((w32 (32 + a2))))) fun v4 => jlt (up M 9 0 a1) fun M5 => jlt (up M5 9 1 a2) fun M6 => jlt (up M6 9 2 v2) fun M7 => jlt (up M7 9 3 v4) fun M8 => jchk (0 ≤ (w32 (18 + v2)) ∧ (w32 (18 + v2)) < 112) <| jlt (up M8 9 4 ((M8 10 ((w32 (18 + v2)))))) fun M10 => jchk (0 ≤ (w32 (18 + v4)) ∧ (w32 (18 + v4)) < 112) <| jlt (up M10 9 5 ((M10 10 ((w32 (18 + v4)))))) fun M12 => jchk (0 ≤ (w32 (25 + v2)) ∧ (w32 (25 + v2)) < 112) <| jlt (up M12 9 6 ((M12 10 ((w32 (25 + v2)))))) fun M14 => jchk (0 ≤ (w32 (25 + v4)) ∧ (w32 (25 + v4)) < 112) <| jlt (up M14 9 7 ((M14 10 ((w32 (25 + v4)))))) fun M16 => jchk (0 ≤ (w32 (39 + a1)) ∧ (w32 (39 + a1)) < 112) <| jchk (0 ≤ (w32 (39 + a2)) ∧ (w32 (39 + a2)) < 112) <| jlt (up M16 9 8 ((w32 (((M16 10 ((w32 (39 + a1))))) + ((M16 10 ((w32 (39 + a2))))))))) fun M19 => (m_homeOnes N M19).bind fun r20 => (m_bits N r20 M19).bind fun r21 => jlt (up M19 9 9 r21) fun M22 => (m_dryMany N M22).bind fun r23 => jlt (up M22 9 10 r23) fun M24 => jlt (up M24 9 11 ((M24 10 10))) fun M25 => jb1 (m_summedBy N ((M25 0 21)) M25) fun r26 M27 => some (r26, M27)
theorem c_m_sumOf {l : Launch} {g : jG} (N : Nat) (a1 a2 : Int) (M : jMem)  : ∀ o, m_sumOf N a1 a2 M = some o → jCt l g jTM yX12_sumOf cX12_sumOf 5 (some .long) 1 7 [(2, 0), (0, a1), (0, a2)] M o := by
  refine jMet (own := RX12) (em := id) (L := [(0, 2, 0), (1, 0, a1), (2, 0, a2)]) (by decide +kernel) rfl (Nat.le_of_ble_eq_true rfl) rfl (fun K hR => ?_)
  unfold m_sumOf
  refine z_aload_n (pc := 0) hR 0 dX12_sumOf_0 rfl rfl ?_
  refine z_getr (pc := 1) hR (c0 := 10) (r := 10) jf_RX12_39 kmo_0 (by decide) rfl rfl dX12_sumOf_1 ?_
  refine z_bipush (pc := 4) hR dX12_sumOf_4 rfl ?_
  refine z_iload_n (pc := 6) hR 1 dX12_sumOf_6 rfl rfl ?_
  refine z_iadd (pc := 7) hR dX12_sumOf_7 ?_
  refine z_chk (fun hc1 => ?_)
  refine z_iald (pc := 8) hR (n := 112) kma_10 hc1.1 hc1.2 dX12_sumOf_8 ?_
  refine z_let1 (fun v2 => ?_)
  refine z_istore_n (pc := 9) hR (lv' := [(3, 0, v2), (0, 2, 0), (1, 0, a1), (2, 0, a2)]) dX12_sumOf_9 rfl (by decide) rfl ?_
  refine z_aload_n (pc := 10) hR 1 dX12_sumOf_10 rfl rfl ?_
  refine z_getr (pc := 11) hR (c0 := 10) (r := 10) jf_RX12_39 kmo_0 (by decide) rfl rfl dX12_sumOf_11 ?_
  refine z_bipush (pc := 14) hR dX12_sumOf_14 rfl ?_
  refine z_iload_n (pc := 16) hR 3 dX12_sumOf_16 rfl rfl ?_
  refine z_iadd (pc := 17) hR dX12_sumOf_17 ?_
  refine z_chk (fun hc3 => ?_)
  refine z_iald (pc := 18) hR (n := 112) kma_10 hc3.1 hc3.2 dX12_sumOf_18 ?_
  refine z_let1 (fun v4 => ?_)
  refine z_istore (pc := 19) hR (lv' := [(4, 0, v4), (3, 0, v2), (0, 2, 0), (1, 0, a1), (2, 0, a2)]) dX12_sumOf_19 (by decide) rfl ?_
  refine z_aload_n (pc := 21) hR 2 dX12_sumOf_21 rfl rfl ?_
  refine z_getr (pc := 22) hR (c0 := 9) (r := 9) jf_RX12_36 kmo_0 (by decide) rfl rfl dX12_sumOf_22 ?_
  refine z_iconst (pc := 25) hR dX12_sumOf_25 rfl ?_
  refine z_iload_n (pc := 26) hR 3 dX12_sumOf_26 rfl rfl ?_
  refine z_i2l (pc := 27) hR dX12_sumOf_27 ?_
  refine z_last (pc := 28) hR (n := 12) kma_9 (by decide) (by decide) dX12_sumOf_28 (fun M5 => ?_)
  refine z_aload_n (pc := 29) hR 2 dX12_sumOf_29 rfl rfl ?_
  refine z_getr (pc := 30) hR (c0 := 9) (r := 9) jf_RX12_36 kmo_0 (by decide) rfl rfl dX12_sumOf_30 ?_
  refine z_iconst (pc := 33) hR dX12_sumOf_33 rfl ?_
  refine z_iload_n (pc := 34) hR 4 dX12_sumOf_34 rfl rfl ?_
  refine z_i2l (pc := 35) hR dX12_sumOf_35 ?_
  refine z_last (pc := 36) hR (n := 12) kma_9 (by decide) (by decide) dX12_sumOf_36 (fun M6 => ?_)
  refine z_aload_n (pc := 37) hR 2 dX12_sumOf_37 rfl rfl ?_
  refine z_getr (pc := 38) hR (c0 := 9) (r := 9) jf_RX12_36 kmo_0 (by decide) rfl rfl dX12_sumOf_38 ?_
  refine z_iconst (pc := 41) hR dX12_sumOf_41 rfl ?_
  refine z_iload_n (pc := 42) hR 1 dX12_sumOf_42 rfl rfl ?_
  refine z_i2l (pc := 43) hR dX12_sumOf_43 ?_
  refine z_last (pc := 44) hR (n := 12) kma_9 (by decide) (by decide) dX12_sumOf_44 (fun M7 => ?_)
  refine z_aload_n (pc := 45) hR 2 dX12_sumOf_45 rfl rfl ?_
  refine z_getr (pc := 46) hR (c0 := 9) (r := 9) jf_RX12_36 kmo_0 (by decide) rfl rfl dX12_sumOf_46 ?_
  refine z_iconst (pc := 49) hR dX12_sumOf_49 rfl ?_
  refine z_iload (pc := 50) hR 0 dX12_sumOf_50 rfl ?_
  refine z_i2l (pc := 52) hR dX12_sumOf_52 ?_
  refine z_last (pc := 53) hR (n := 12) kma_9 (by decide) (by decide) dX12_sumOf_53 (fun M8 => ?_)
  refine z_aload_n (pc := 54) hR 2 dX12_sumOf_54 rfl rfl ?_
  refine z_getr (pc := 55) hR (c0 := 9) (r := 9) jf_RX12_36 kmo_0 (by decide) rfl rfl dX12_sumOf_55 ?_
  refine z_iconst (pc := 58) hR dX12_sumOf_58 rfl ?_
  refine z_aload_n (pc := 59) hR 2 dX12_sumOf_59 rfl rfl ?_
  refine z_getr (pc := 60) hR (c0 := 10) (r := 10) jf_RX12_39 kmo_0 (by decide) rfl rfl dX12_sumOf_60 ?_
  refine z_bipush (pc := 63) hR dX12_sumOf_63 rfl ?_
  refine z_iload_n (pc := 65) hR 1 dX12_sumOf_65 rfl rfl ?_
  refine z_iadd (pc := 66) hR dX12_sumOf_66 ?_
  refine z_chk (fun hc9 => ?_)
  refine z_iald (pc := 67) hR (n := 112) kma_10 hc9.1 hc9.2 dX12_sumOf_67 ?_
  refine z_i2l (pc := 68) hR dX12_sumOf_68 ?_
  refine z_last (pc := 69) hR (n := 12) kma_9 (by decide) (by decide) dX12_sumOf_69 (fun M10 => ?_)
  refine z_aload_n (pc := 70) hR 2 dX12_sumOf_70 rfl rfl ?_
  refine z_getr (pc := 71) hR (c0 := 9) (r := 9) jf_RX12_36 kmo_0 (by decide) rfl rfl dX12_sumOf_71 ?_
  refine z_iconst (pc := 74) hR dX12_sumOf_74 rfl ?_
  refine z_aload_n (pc := 75) hR 2 dX12_sumOf_75 rfl rfl ?_
  refine z_getr (pc := 76) hR (c0 := 10) (r := 10) jf_RX12_39 kmo_0 (by decide) rfl rfl dX12_sumOf_76 ?_
  refine z_bipush (pc := 79) hR dX12_sumOf_79 rfl ?_
  refine z_iload (pc := 81) hR 0 dX12_sumOf_81 rfl ?_
  refine z_iadd (pc := 83) hR dX12_sumOf_83 ?_
  refine z_chk (fun hc11 => ?_)
  refine z_iald (pc := 84) hR (n := 112) kma_10 hc11.1 hc11.2 dX12_sumOf_84 ?_
  refine z_i2l (pc := 85) hR dX12_sumOf_85 ?_
  refine z_last (pc := 86) hR (n := 12) kma_9 (by decide) (by decide) dX12_sumOf_86 (fun M12 => ?_)
  refine z_aload_n (pc := 87) hR 2 dX12_sumOf_87 rfl rfl ?_
  refine z_getr (pc := 88) hR (c0 := 9) (r := 9) jf_RX12_36 kmo_0 (by decide) rfl rfl dX12_sumOf_88 ?_
  refine z_bipush (pc := 91) hR dX12_sumOf_91 rfl ?_
  refine z_aload_n (pc := 93) hR 2 dX12_sumOf_93 rfl rfl ?_
  refine z_getr (pc := 94) hR (c0 := 10) (r := 10) jf_RX12_39 kmo_0 (by decide) rfl rfl dX12_sumOf_94 ?_
  refine z_bipush (pc := 97) hR dX12_sumOf_97 rfl ?_
  refine z_iload_n (pc := 99) hR 1 dX12_sumOf_99 rfl rfl ?_
  refine z_iadd (pc := 100) hR dX12_sumOf_100 ?_
  refine z_chk (fun hc13 => ?_)
  refine z_iald (pc := 101) hR (n := 112) kma_10 hc13.1 hc13.2 dX12_sumOf_101 ?_
  refine z_i2l (pc := 102) hR dX12_sumOf_102 ?_
  refine z_last (pc := 103) hR (n := 12) kma_9 (by decide) (by decide) dX12_sumOf_103 (fun M14 => ?_)
  refine z_aload_n (pc := 104) hR 2 dX12_sumOf_104 rfl rfl ?_
  refine z_getr (pc := 105) hR (c0 := 9) (r := 9) jf_RX12_36 kmo_0 (by decide) rfl rfl dX12_sumOf_105 ?_
  refine z_bipush (pc := 108) hR dX12_sumOf_108 rfl ?_
  refine z_aload_n (pc := 110) hR 2 dX12_sumOf_110 rfl rfl ?_
  refine z_getr (pc := 111) hR (c0 := 10) (r := 10) jf_RX12_39 kmo_0 (by decide) rfl rfl dX12_sumOf_111 ?_
  refine z_bipush (pc := 114) hR dX12_sumOf_114 rfl ?_
  refine z_iload (pc := 116) hR 0 dX12_sumOf_116 rfl ?_
  refine z_iadd (pc := 118) hR dX12_sumOf_118 ?_
  refine z_chk (fun hc15 => ?_)
  refine z_iald (pc := 119) hR (n := 112) kma_10 hc15.1 hc15.2 dX12_sumOf_119 ?_
  refine z_i2l (pc := 120) hR dX12_sumOf_120 ?_
  refine z_last (pc := 121) hR (n := 12) kma_9 (by decide) (by decide) dX12_sumOf_121 (fun M16 => ?_)
  refine z_aload_n (pc := 122) hR 2 dX12_sumOf_122 rfl rfl ?_
  refine z_getr (pc := 123) hR (c0 := 9) (r := 9) jf_RX12_36 kmo_0 (by decide) rfl rfl dX12_sumOf_123 ?_
  refine z_bipush (pc := 126) hR dX12_sumOf_126 rfl ?_
  refine z_aload_n (pc := 128) hR 2 dX12_sumOf_128 rfl rfl ?_
  refine z_getr (pc := 129) hR (c0 := 10) (r := 10) jf_RX12_39 kmo_0 (by decide) rfl rfl dX12_sumOf_129 ?_
  refine z_bipush (pc := 132) hR dX12_sumOf_132 rfl ?_
  refine z_iload_n (pc := 134) hR 3 dX12_sumOf_134 rfl rfl ?_
  refine z_iadd (pc := 135) hR dX12_sumOf_135 ?_
  refine z_chk (fun hc17 => ?_)
  refine z_iald (pc := 136) hR (n := 112) kma_10 hc17.1 hc17.2 dX12_sumOf_136 ?_
  refine z_aload_n (pc := 137) hR 2 dX12_sumOf_137 rfl rfl ?_
  refine z_getr (pc := 138) hR (c0 := 10) (r := 10) jf_RX12_39 kmo_0 (by decide) rfl rfl dX12_sumOf_138 ?_
  refine z_bipush (pc := 141) hR dX12_sumOf_141 rfl ?_
  refine z_iload_n (pc := 143) hR 4 dX12_sumOf_143 rfl rfl ?_
  refine z_iadd (pc := 144) hR dX12_sumOf_144 ?_
  refine z_chk (fun hc18 => ?_)
  refine z_iald (pc := 145) hR (n := 112) kma_10 hc18.1 hc18.2 dX12_sumOf_145 ?_
  refine z_iadd (pc := 146) hR dX12_sumOf_146 ?_
  refine z_i2l (pc := 147) hR dX12_sumOf_147 ?_
  refine z_last (pc := 148) hR (n := 12) kma_9 (by decide) (by decide) dX12_sumOf_148 (fun M19 => ?_)
  refine z_aload_n (pc := 149) hR 2 dX12_sumOf_149 rfl rfl ?_
  refine z_getr (pc := 150) hR (c0 := 9) (r := 9) jf_RX12_36 kmo_0 (by decide) rfl rfl dX12_sumOf_150 ?_
  refine z_bipush (pc := 153) hR dX12_sumOf_153 rfl ?_
  refine z_aload_n (pc := 155) hR 2 dX12_sumOf_155 rfl rfl ?_
  refine z_callvp (pc := 156) hR (As := []) (st := [(0, 9), (2, 9)]) jm_X12_homeOnes jl_RX12_323 kmo_0 (by decide) rfl (by decide) (c_m_homeOnes N M19) rfl (by decide) (by decide) rfl (Nat.le_of_ble_eq_true rfl) dX12_sumOf_156 (fun r20 => ?_)
  refine z_callsp (pc := 159) hR (As := [(0, r20)]) (st := [(0, 9), (2, 9)]) jm_X12_bits jl_RX12_326 (by decide) (c_m_bits N r20 M19) rfl (by decide) (by decide) rfl (Nat.le_of_ble_eq_true rfl) dX12_sumOf_159 (fun r21 => ?_)
  refine z_i2l (pc := 162) hR dX12_sumOf_162 ?_
  refine z_last (pc := 163) hR (n := 12) kma_9 (by decide) (by decide) dX12_sumOf_163 (fun M22 => ?_)
  refine z_aload_n (pc := 164) hR 2 dX12_sumOf_164 rfl rfl ?_
  refine z_getr (pc := 165) hR (c0 := 9) (r := 9) jf_RX12_36 kmo_0 (by decide) rfl rfl dX12_sumOf_165 ?_
  refine z_bipush (pc := 168) hR dX12_sumOf_168 rfl ?_
  refine z_aload_n (pc := 170) hR 2 dX12_sumOf_170 rfl rfl ?_
  refine z_callvp (pc := 171) hR (As := []) (st := [(0, 10), (2, 9)]) jm_X12_dryMany jl_RX12_329 kmo_0 (by decide) rfl (by decide) (c_m_dryMany N M22) rfl (by decide) (by decide) rfl (Nat.le_of_ble_eq_true rfl) dX12_sumOf_171 (fun r23 => ?_)
  refine z_i2l (pc := 174) hR dX12_sumOf_174 ?_
  refine z_last (pc := 175) hR (n := 12) kma_9 (by decide) (by decide) dX12_sumOf_175 (fun M24 => ?_)
  refine z_aload_n (pc := 176) hR 2 dX12_sumOf_176 rfl rfl ?_
  refine z_getr (pc := 177) hR (c0 := 9) (r := 9) jf_RX12_36 kmo_0 (by decide) rfl rfl dX12_sumOf_177 ?_
  refine z_bipush (pc := 180) hR dX12_sumOf_180 rfl ?_
  refine z_aload_n (pc := 182) hR 2 dX12_sumOf_182 rfl rfl ?_
  refine z_getr (pc := 183) hR (c0 := 10) (r := 10) jf_RX12_39 kmo_0 (by decide) rfl rfl dX12_sumOf_183 ?_
  refine z_bipush (pc := 186) hR dX12_sumOf_186 rfl ?_
  refine z_iald (pc := 188) hR (n := 112) kma_10 (by decide) (by decide) dX12_sumOf_188 ?_
  refine z_i2l (pc := 189) hR dX12_sumOf_189 ?_
  refine z_last (pc := 190) hR (n := 12) kma_9 (by decide) (by decide) dX12_sumOf_190 (fun M25 => ?_)
  refine z_aload_n (pc := 191) hR 2 dX12_sumOf_191 rfl rfl ?_
  refine z_aload_n (pc := 192) hR 2 dX12_sumOf_192 rfl rfl ?_
  refine z_geti (pc := 193) hR (j := 21) jf_RX12_42 kmo_0 (by decide) rfl rfl dX12_sumOf_193 ?_
  refine z_callv1 (pc := 196) hR (As := [(0, (M25 0 21))]) (st := []) jm_X12_summedBy jl_RX12_332 kmo_0 (by decide) rfl (by decide) (c_m_summedBy N ((M25 0 21)) M25) rfl (by decide) (by decide) rfl (Nat.le_of_ble_eq_true rfl) dX12_sumOf_196 (fun r26 M27 => ?_)
  exact z_lreturn (pc := 199) hR rfl rfl dX12_sumOf_199 rfl
theorem dX12_choice_0 : decode cX12_choice 0 = .ok (.iconst (-1), 1) := by decide +kernel
theorem dX12_choice_1 : decode cX12_choice 1 = .ok (.istore_n 1, 1) := by decide +kernel
theorem dX12_choice_2 : decode cX12_choice 2 = .ok (.lconst 0, 1) := by decide +kernel
theorem dX12_choice_3 : decode cX12_choice 3 = .ok (.lstore_n 2, 1) := by decide +kernel
theorem dX12_choice_4 : decode cX12_choice 4 = .ok (.iconst 0, 1) := by decide +kernel
theorem dX12_choice_5 : decode cX12_choice 5 = .ok (.istore 4, 2) := by decide +kernel
theorem dX12_choice_7 : decode cX12_choice 7 = .ok (.iload 4, 2) := by decide +kernel
theorem dX12_choice_9 : decode cX12_choice 9 = .ok (.aload_n 0, 1) := by decide +kernel
theorem dX12_choice_10 : decode cX12_choice 10 = .ok (.getfield 39, 3) := by decide +kernel
theorem dX12_choice_13 : decode cX12_choice 13 = .ok (.iconst 1, 1) := by decide +kernel
theorem dX12_choice_14 : decode cX12_choice 14 = .ok (.iaload, 1) := by decide +kernel
theorem dX12_choice_15 : decode cX12_choice 15 = .ok (.if_icmp .ge 89, 3) := by decide +kernel
theorem dX12_choice_18 : decode cX12_choice 18 = .ok (.iload 4, 2) := by decide +kernel
theorem dX12_choice_20 : decode cX12_choice 20 = .ok (.iconst 1, 1) := by decide +kernel
theorem dX12_choice_21 : decode cX12_choice 21 = .ok (.iadd, 1) := by decide +kernel
theorem dX12_choice_22 : decode cX12_choice 22 = .ok (.istore 5, 2) := by decide +kernel
theorem dX12_choice_24 : decode cX12_choice 24 = .ok (.iload 5, 2) := by decide +kernel
theorem dX12_choice_26 : decode cX12_choice 26 = .ok (.aload_n 0, 1) := by decide +kernel
theorem dX12_choice_27 : decode cX12_choice 27 = .ok (.getfield 39, 3) := by decide +kernel
theorem dX12_choice_30 : decode cX12_choice 30 = .ok (.iconst 1, 1) := by decide +kernel
theorem dX12_choice_31 : decode cX12_choice 31 = .ok (.iaload, 1) := by decide +kernel
theorem dX12_choice_32 : decode cX12_choice 32 = .ok (.if_icmp .ge 66, 3) := by decide +kernel
theorem dX12_choice_35 : decode cX12_choice 35 = .ok (.aload_n 0, 1) := by decide +kernel
theorem dX12_choice_36 : decode cX12_choice 36 = .ok (.iload 4, 2) := by decide +kernel
theorem dX12_choice_38 : decode cX12_choice 38 = .ok (.iload 5, 2) := by decide +kernel
theorem dX12_choice_40 : decode cX12_choice 40 = .ok (.invokevirtual 304, 3) := by decide +kernel
theorem dX12_choice_43 : decode cX12_choice 43 = .ok (.ifCond .ne 6, 3) := by decide +kernel
theorem dX12_choice_46 : decode cX12_choice 46 = .ok (.goto 46, 3) := by decide +kernel
theorem dX12_choice_49 : decode cX12_choice 49 = .ok (.aload_n 0, 1) := by decide +kernel
theorem dX12_choice_50 : decode cX12_choice 50 = .ok (.getfield 42, 3) := by decide +kernel
theorem dX12_choice_53 : decode cX12_choice 53 = .ok (.ifCond .ge 7, 3) := by decide +kernel
theorem dX12_choice_56 : decode cX12_choice 56 = .ok (.lconst 1, 1) := by decide +kernel
theorem dX12_choice_57 : decode cX12_choice 57 = .ok (.goto 11, 3) := by decide +kernel
theorem dX12_choice_60 : decode cX12_choice 60 = .ok (.aload_n 0, 1) := by decide +kernel
theorem dX12_choice_61 : decode cX12_choice 61 = .ok (.iload 4, 2) := by decide +kernel
theorem dX12_choice_63 : decode cX12_choice 63 = .ok (.iload 5, 2) := by decide +kernel
theorem dX12_choice_65 : decode cX12_choice 65 = .ok (.invokevirtual 336, 3) := by decide +kernel
theorem dX12_choice_68 : decode cX12_choice 68 = .ok (.lstore 6, 2) := by decide +kernel
theorem dX12_choice_70 : decode cX12_choice 70 = .ok (.lload 6, 2) := by decide +kernel
theorem dX12_choice_72 : decode cX12_choice 72 = .ok (.lload_n 2, 1) := by decide +kernel
theorem dX12_choice_73 : decode cX12_choice 73 = .ok (.lcmp, 1) := by decide +kernel
theorem dX12_choice_74 : decode cX12_choice 74 = .ok (.ifCond .gt 6, 3) := by decide +kernel
theorem dX12_choice_77 : decode cX12_choice 77 = .ok (.goto 15, 3) := by decide +kernel
theorem dX12_choice_80 : decode cX12_choice 80 = .ok (.bipush 8, 2) := by decide +kernel
theorem dX12_choice_82 : decode cX12_choice 82 = .ok (.iload 4, 2) := by decide +kernel
theorem dX12_choice_84 : decode cX12_choice 84 = .ok (.imul, 1) := by decide +kernel
theorem dX12_choice_85 : decode cX12_choice 85 = .ok (.iload 5, 2) := by decide +kernel
theorem dX12_choice_87 : decode cX12_choice 87 = .ok (.iadd, 1) := by decide +kernel
theorem dX12_choice_88 : decode cX12_choice 88 = .ok (.istore_n 1, 1) := by decide +kernel
theorem dX12_choice_89 : decode cX12_choice 89 = .ok (.lload 6, 2) := by decide +kernel
theorem dX12_choice_91 : decode cX12_choice 91 = .ok (.lstore_n 2, 1) := by decide +kernel
theorem dX12_choice_92 : decode cX12_choice 92 = .ok (.iinc 5 1, 3) := by decide +kernel
theorem dX12_choice_95 : decode cX12_choice 95 = .ok (.goto (-71), 3) := by decide +kernel
theorem dX12_choice_98 : decode cX12_choice 98 = .ok (.iinc 4 1, 3) := by decide +kernel
theorem dX12_choice_101 : decode cX12_choice 101 = .ok (.goto (-94), 3) := by decide +kernel
theorem dX12_choice_104 : decode cX12_choice 104 = .ok (.iload_n 1, 1) := by decide +kernel
theorem dX12_choice_105 : decode cX12_choice 105 = .ok (.ireturn, 1) := by decide +kernel
def m_choice_L24 (N : Nat) (x3 : Int) (h7 : (Int × Int × Int × jMem) → Option (Int × jMem)) (h24 : (Int × Int × Int × jMem) → Option (Int × jMem)) : Int × Int × Int × jMem → Option (Int × jMem)
  | (x6, x7, x8, M9) => (if x8 < (M9 10 1) then (m_canWed N x3 x8 M9).bind fun r10 => (if r10 = 0 then h24 (x6, x7, (w32 (x8 + 1)), M9) else jlt (fun (u11 : Int) (M12 : jMem) => (if 0 < (jcmp u11 x7) then jlt ((w32 (((w32 (8 * x3))) + x8))) fun v13 => h24 (v13, u11, (w32 (x8 + 1)), M12) else h24 (x6, x7, (w32 (x8 + 1)), M12))) fun j68 => (if (M9 0 21) < 0 then j68 1 M9 else jb1 (m_sumOf N x3 x8 M9) fun r14 M15 => j68 r14 M15)) else h7 (x6, x7, (w32 (x3 + 1)), M9))
def m_choice_L7 (N : Nat)  (h7 : (Int × Int × Int × jMem) → Option (Int × jMem)) : Int × Int × Int × jMem → Option (Int × jMem)
  | (x1, x2, x3, M4) => (if x3 < (M4 10 1) then jlt ((w32 (x3 + 1))) fun v5 => jfix N (m_choice_L24 N x3 h7) (x1, x2, v5, M4) else some (x1, M4))
def m_choice (N : Nat) (M : jMem) : Option (Int × jMem) := jfix N (m_choice_L7 N) ((-1), 0, 0, M)
theorem c_m_choice {l : Launch} {g : jG} (N : Nat) (M : jMem)  : ∀ o, m_choice N  M = some o → jCt l g jTM yX12_choice cX12_choice 8 (some .int) 0 9 [(2, 0)] M o := by
  refine jMet (own := RX12) (em := id) (L := [(0, 2, 0)]) (by decide +kernel) rfl (Nat.le_of_ble_eq_true rfl) rfl (fun K hR => ?_)
  unfold m_choice
  refine z_iconst (pc := 0) hR dX12_choice_0 rfl ?_
  refine z_istore_n (pc := 1) hR (lv' := [(1, 0, (-1)), (0, 2, 0)]) dX12_choice_1 rfl (by decide) rfl ?_
  refine z_lconst (pc := 2) hR (x := 0) dX12_choice_2 rfl ?_
  refine z_lstore_n (pc := 3) hR (lv' := [(2, 1, 0), (1, 0, (-1)), (0, 2, 0)]) dX12_choice_3 rfl (by decide) rfl ?_
  refine z_iconst (pc := 4) hR dX12_choice_4 rfl ?_
  refine z_istore (pc := 5) hR (lv' := [(4, 0, 0), (2, 1, 0), (1, 0, (-1)), (0, 2, 0)]) dX12_choice_5 (by decide) rfl ?_
  refine z_pick (pc := 7) (lv' := [(0, 2, 0), (1, 0, (-1)), (2, 1, 0), (4, 0, 0)]) hR [3, 2, 1, 0] rfl ?_
  refine z_fix (σ := Int × Int × Int × jMem) (lv := fun s => [(0, 2, 0), (1, 0, s.1), (2, 1, s.2.1), (4, 0, s.2.2.1)]) (st := fun _ => []) (M := fun s => s.2.2.2) (fun h7 hh7 => ?_) N ((-1), 0, 0, M)
  rintro ⟨x1, x2, x3, M4⟩
  show jZ K id 7 [(0, 2, 0), (1, 0, x1), (2, 1, x2), (4, 0, x3)] [] M4 _
  unfold m_choice_L7
  refine z_iload (pc := 7) hR 3 dX12_choice_7 rfl ?_
  refine z_aload_n (pc := 9) hR 0 dX12_choice_9 rfl rfl ?_
  refine z_getr (pc := 10) hR (c0 := 10) (r := 10) jf_RX12_39 kmo_0 (by decide) rfl rfl dX12_choice_10 ?_
  refine z_iconst (pc := 13) hR dX12_choice_13 rfl ?_
  refine z_iald (pc := 14) hR (n := 112) kma_10 (by decide) (by decide) dX12_choice_14 ?_
  refine z_icmpge (pc := 15) (tgt := 104) hR dX12_choice_15 (by decide) ?_ ?_
  · refine z_iload_n (pc := 104) hR 1 dX12_choice_104 rfl rfl ?_
    exact z_ireturn (pc := 105) hR rfl rfl dX12_choice_105 rfl
  · refine z_iload (pc := 18) hR 3 dX12_choice_18 rfl ?_
    refine z_iconst (pc := 20) hR dX12_choice_20 rfl ?_
    refine z_iadd (pc := 21) hR dX12_choice_21 ?_
    refine z_let1 (fun v5 => ?_)
    refine z_istore (pc := 22) hR (lv' := [(5, 0, v5), (0, 2, 0), (1, 0, x1), (2, 1, x2), (4, 0, x3)]) dX12_choice_22 (by decide) rfl ?_
    refine z_pick (pc := 24) (lv' := [(0, 2, 0), (1, 0, x1), (2, 1, x2), (4, 0, x3), (5, 0, v5)]) hR [1, 2, 3, 4, 0] rfl ?_
    refine z_fix (σ := Int × Int × Int × jMem) (lv := fun s => [(0, 2, 0), (1, 0, s.1), (2, 1, s.2.1), (4, 0, x3), (5, 0, s.2.2.1)]) (st := fun _ => []) (M := fun s => s.2.2.2) (fun h24 hh24 => ?_) N (x1, x2, v5, M4)
    rintro ⟨x6, x7, x8, M9⟩
    show jZ K id 24 [(0, 2, 0), (1, 0, x6), (2, 1, x7), (4, 0, x3), (5, 0, x8)] [] M9 _
    unfold m_choice_L24
    refine z_iload (pc := 24) hR 4 dX12_choice_24 rfl ?_
    refine z_aload_n (pc := 26) hR 0 dX12_choice_26 rfl rfl ?_
    refine z_getr (pc := 27) hR (c0 := 10) (r := 10) jf_RX12_39 kmo_0 (by decide) rfl rfl dX12_choice_27 ?_
    refine z_iconst (pc := 30) hR dX12_choice_30 rfl ?_
    refine z_iald (pc := 31) hR (n := 112) kma_10 (by decide) (by decide) dX12_choice_31 ?_
    refine z_icmpge (pc := 32) (tgt := 98) hR dX12_choice_32 (by decide) ?_ ?_
    · refine z_iinc (pc := 98) hR (j := 3) (lv' := [(4, 0, (w32 (x3 + 1))), (0, 2, 0), (1, 0, x6), (2, 1, x7), (5, 0, x8)]) dX12_choice_98 rfl (by decide) rfl ?_
      refine z_goto (pc := 101) (tgt := 7) hR dX12_choice_101 (by decide) ?_
      refine z_pick (pc := 7) (lv' := [(0, 2, 0), (1, 0, x6), (2, 1, x7), (4, 0, (w32 (x3 + 1)))]) hR [1, 2, 3, 0] rfl ?_
      exact hh7 (x6, x7, (w32 (x3 + 1)), M9)
    · refine z_aload_n (pc := 35) hR 0 dX12_choice_35 rfl rfl ?_
      refine z_iload (pc := 36) hR 3 dX12_choice_36 rfl ?_
      refine z_iload (pc := 38) hR 4 dX12_choice_38 rfl ?_
      refine z_callvp (pc := 40) hR (As := [(0, x3), (0, x8)]) (st := []) jm_X12_canWed jl_RX12_304 kmo_0 (by decide) rfl (by decide) (c_m_canWed N x3 x8 M9) rfl (by decide) (by decide) rfl (Nat.le_of_ble_eq_true rfl) dX12_choice_40 (fun r10 => ?_)
      refine z_ifne (pc := 43) (tgt := 49) hR dX12_choice_43 (by decide) ?_ ?_
      · refine z_aload_n (pc := 49) hR 0 dX12_choice_49 rfl rfl ?_
        refine z_geti (pc := 50) hR (j := 21) jf_RX12_42 kmo_0 (by decide) rfl rfl dX12_choice_50 ?_
        refine z_join (P := fun j => ∀ (u11 : Int) (M12 : jMem), jZ K id 68 [(0, 2, 0), (1, 0, x6), (2, 1, x7), (4, 0, x3), (5, 0, x8)] [(1, u11)] M12 (j u11 M12)) (fun u11 M12 => ?_) (fun j68 hj68 => ?_)
        · refine z_lstore (pc := 68) hR (lv' := [(6, 1, u11), (0, 2, 0), (1, 0, x6), (2, 1, x7), (4, 0, x3), (5, 0, x8)]) dX12_choice_68 (by decide) rfl ?_
          refine z_lload (pc := 70) hR 0 dX12_choice_70 rfl ?_
          refine z_lload_n (pc := 72) hR 3 dX12_choice_72 rfl rfl ?_
          refine z_lcmp (pc := 73) hR dX12_choice_73 ?_
          refine z_ifgt (pc := 74) (tgt := 80) hR dX12_choice_74 (by decide) ?_ ?_
          · refine z_bipush (pc := 80) hR dX12_choice_80 rfl ?_
            refine z_iload (pc := 82) hR 4 dX12_choice_82 rfl ?_
            refine z_imul (pc := 84) hR dX12_choice_84 ?_
            refine z_iload (pc := 85) hR 5 dX12_choice_85 rfl ?_
            refine z_iadd (pc := 87) hR dX12_choice_87 ?_
            refine z_let1 (fun v13 => ?_)
            refine z_istore_n (pc := 88) hR (lv' := [(1, 0, v13), (6, 1, u11), (0, 2, 0), (2, 1, x7), (4, 0, x3), (5, 0, x8)]) dX12_choice_88 rfl (by decide) rfl ?_
            refine z_lload (pc := 89) hR 1 dX12_choice_89 rfl ?_
            refine z_lstore_n (pc := 91) hR (lv' := [(2, 1, u11), (1, 0, v13), (6, 1, u11), (0, 2, 0), (4, 0, x3), (5, 0, x8)]) dX12_choice_91 rfl (by decide) rfl ?_
            refine z_iinc (pc := 92) hR (j := 5) (lv' := [(5, 0, (w32 (x8 + 1))), (2, 1, u11), (1, 0, v13), (6, 1, u11), (0, 2, 0), (4, 0, x3)]) dX12_choice_92 rfl (by decide) rfl ?_
            refine z_goto (pc := 95) (tgt := 24) hR dX12_choice_95 (by decide) ?_
            refine z_pick (pc := 24) (lv' := [(0, 2, 0), (1, 0, v13), (2, 1, u11), (4, 0, x3), (5, 0, (w32 (x8 + 1)))]) hR [4, 2, 1, 5, 0] rfl ?_
            exact hh24 (v13, u11, (w32 (x8 + 1)), M12)
          · refine z_goto (pc := 77) (tgt := 92) hR dX12_choice_77 (by decide) ?_
            refine z_iinc (pc := 92) hR (j := 5) (lv' := [(5, 0, (w32 (x8 + 1))), (6, 1, u11), (0, 2, 0), (1, 0, x6), (2, 1, x7), (4, 0, x3)]) dX12_choice_92 rfl (by decide) rfl ?_
            refine z_goto (pc := 95) (tgt := 24) hR dX12_choice_95 (by decide) ?_
            refine z_pick (pc := 24) (lv' := [(0, 2, 0), (1, 0, x6), (2, 1, x7), (4, 0, x3), (5, 0, (w32 (x8 + 1)))]) hR [2, 3, 4, 5, 0] rfl ?_
            exact hh24 (x6, x7, (w32 (x8 + 1)), M12)
        refine z_ifge (pc := 53) (tgt := 60) hR dX12_choice_53 (by decide) ?_ ?_
        · refine z_aload_n (pc := 60) hR 0 dX12_choice_60 rfl rfl ?_
          refine z_iload (pc := 61) hR 3 dX12_choice_61 rfl ?_
          refine z_iload (pc := 63) hR 4 dX12_choice_63 rfl ?_
          refine z_callv1 (pc := 65) hR (As := [(0, x3), (0, x8)]) (st := []) jm_X12_sumOf jl_RX12_336 kmo_0 (by decide) rfl (by decide) (c_m_sumOf N x3 x8 M9) rfl (by decide) (by decide) rfl (Nat.le_of_ble_eq_true rfl) dX12_choice_65 (fun r14 M15 => ?_)
          exact hj68 r14 M15
        · refine z_lconst (pc := 56) hR (x := 1) dX12_choice_56 rfl ?_
          refine z_goto (pc := 57) (tgt := 68) hR dX12_choice_57 (by decide) ?_
          exact hj68 1 M9
      · refine z_goto (pc := 46) (tgt := 92) hR dX12_choice_46 (by decide) ?_
        refine z_iinc (pc := 92) hR (j := 4) (lv' := [(5, 0, (w32 (x8 + 1))), (0, 2, 0), (1, 0, x6), (2, 1, x7), (4, 0, x3)]) dX12_choice_92 rfl (by decide) rfl ?_
        refine z_goto (pc := 95) (tgt := 24) hR dX12_choice_95 (by decide) ?_
        refine z_pick (pc := 24) (lv' := [(0, 2, 0), (1, 0, x6), (2, 1, x7), (4, 0, x3), (5, 0, (w32 (x8 + 1)))]) hR [1, 2, 3, 4, 0] rfl ?_
        exact hh24 (x6, x7, (w32 (x8 + 1)), M9)
theorem dX12_weds_0 : decode cX12_weds 0 = .ok (.aload_n 0, 1) := by decide +kernel
theorem dX12_weds_1 : decode cX12_weds 1 = .ok (.getfield 39, 3) := by decide +kernel
theorem dX12_weds_4 : decode cX12_weds 4 = .ok (.bipush 32, 2) := by decide +kernel
theorem dX12_weds_6 : decode cX12_weds 6 = .ok (.iload_n 1, 1) := by decide +kernel
theorem dX12_weds_7 : decode cX12_weds 7 = .ok (.iadd, 1) := by decide +kernel
theorem dX12_weds_8 : decode cX12_weds 8 = .ok (.iaload, 1) := by decide +kernel
theorem dX12_weds_9 : decode cX12_weds 9 = .ok (.istore_n 3, 1) := by decide +kernel
theorem dX12_weds_10 : decode cX12_weds 10 = .ok (.aload_n 0, 1) := by decide +kernel
theorem dX12_weds_11 : decode cX12_weds 11 = .ok (.getfield 39, 3) := by decide +kernel
theorem dX12_weds_14 : decode cX12_weds 14 = .ok (.bipush 32, 2) := by decide +kernel
theorem dX12_weds_16 : decode cX12_weds 16 = .ok (.iload_n 2, 1) := by decide +kernel
theorem dX12_weds_17 : decode cX12_weds 17 = .ok (.iadd, 1) := by decide +kernel
theorem dX12_weds_18 : decode cX12_weds 18 = .ok (.iaload, 1) := by decide +kernel
theorem dX12_weds_19 : decode cX12_weds 19 = .ok (.istore 4, 2) := by decide +kernel
theorem dX12_weds_21 : decode cX12_weds 21 = .ok (.aload_n 0, 1) := by decide +kernel
theorem dX12_weds_22 : decode cX12_weds 22 = .ok (.getfield 39, 3) := by decide +kernel
theorem dX12_weds_25 : decode cX12_weds 25 = .ok (.bipush 18, 2) := by decide +kernel
theorem dX12_weds_27 : decode cX12_weds 27 = .ok (.iload 4, 2) := by decide +kernel
theorem dX12_weds_29 : decode cX12_weds 29 = .ok (.iadd, 1) := by decide +kernel
theorem dX12_weds_30 : decode cX12_weds 30 = .ok (.iaload, 1) := by decide +kernel
theorem dX12_weds_31 : decode cX12_weds 31 = .ok (.aload_n 0, 1) := by decide +kernel
theorem dX12_weds_32 : decode cX12_weds 32 = .ok (.getfield 39, 3) := by decide +kernel
theorem dX12_weds_35 : decode cX12_weds 35 = .ok (.bipush 18, 2) := by decide +kernel
theorem dX12_weds_37 : decode cX12_weds 37 = .ok (.iload_n 3, 1) := by decide +kernel
theorem dX12_weds_38 : decode cX12_weds 38 = .ok (.iadd, 1) := by decide +kernel
theorem dX12_weds_39 : decode cX12_weds 39 = .ok (.iaload, 1) := by decide +kernel
theorem dX12_weds_40 : decode cX12_weds 40 = .ok (.isub, 1) := by decide +kernel
theorem dX12_weds_41 : decode cX12_weds 41 = .ok (.iconst 3, 1) := by decide +kernel
theorem dX12_weds_42 : decode cX12_weds 42 = .ok (.idiv, 1) := by decide +kernel
theorem dX12_weds_43 : decode cX12_weds 43 = .ok (.istore 5, 2) := by decide +kernel
theorem dX12_weds_45 : decode cX12_weds 45 = .ok (.aload_n 0, 1) := by decide +kernel
theorem dX12_weds_46 : decode cX12_weds 46 = .ok (.getfield 39, 3) := by decide +kernel
theorem dX12_weds_49 : decode cX12_weds 49 = .ok (.bipush 18, 2) := by decide +kernel
theorem dX12_weds_51 : decode cX12_weds 51 = .ok (.iload_n 3, 1) := by decide +kernel
theorem dX12_weds_52 : decode cX12_weds 52 = .ok (.iadd, 1) := by decide +kernel
theorem dX12_weds_53 : decode cX12_weds 53 = .ok (.dup2, 1) := by decide +kernel
theorem dX12_weds_54 : decode cX12_weds 54 = .ok (.iaload, 1) := by decide +kernel
theorem dX12_weds_55 : decode cX12_weds 55 = .ok (.iload 5, 2) := by decide +kernel
theorem dX12_weds_57 : decode cX12_weds 57 = .ok (.iadd, 1) := by decide +kernel
theorem dX12_weds_58 : decode cX12_weds 58 = .ok (.iastore, 1) := by decide +kernel
theorem dX12_weds_59 : decode cX12_weds 59 = .ok (.aload_n 0, 1) := by decide +kernel
theorem dX12_weds_60 : decode cX12_weds 60 = .ok (.getfield 39, 3) := by decide +kernel
theorem dX12_weds_63 : decode cX12_weds 63 = .ok (.bipush 18, 2) := by decide +kernel
theorem dX12_weds_65 : decode cX12_weds 65 = .ok (.iload 4, 2) := by decide +kernel
theorem dX12_weds_67 : decode cX12_weds 67 = .ok (.iadd, 1) := by decide +kernel
theorem dX12_weds_68 : decode cX12_weds 68 = .ok (.dup2, 1) := by decide +kernel
theorem dX12_weds_69 : decode cX12_weds 69 = .ok (.iaload, 1) := by decide +kernel
theorem dX12_weds_70 : decode cX12_weds 70 = .ok (.iload 5, 2) := by decide +kernel
theorem dX12_weds_72 : decode cX12_weds 72 = .ok (.isub, 1) := by decide +kernel
theorem dX12_weds_73 : decode cX12_weds 73 = .ok (.iastore, 1) := by decide +kernel
theorem dX12_weds_74 : decode cX12_weds 74 = .ok (.aload_n 0, 1) := by decide +kernel
theorem dX12_weds_75 : decode cX12_weds 75 = .ok (.getfield 39, 3) := by decide +kernel
theorem dX12_weds_78 : decode cX12_weds 78 = .ok (.bipush 32, 2) := by decide +kernel
theorem dX12_weds_80 : decode cX12_weds 80 = .ok (.iload_n 1, 1) := by decide +kernel
theorem dX12_weds_81 : decode cX12_weds 81 = .ok (.iadd, 1) := by decide +kernel
theorem dX12_weds_82 : decode cX12_weds 82 = .ok (.iload 4, 2) := by decide +kernel
theorem dX12_weds_84 : decode cX12_weds 84 = .ok (.iastore, 1) := by decide +kernel
theorem dX12_weds_85 : decode cX12_weds 85 = .ok (.aload_n 0, 1) := by decide +kernel
theorem dX12_weds_86 : decode cX12_weds 86 = .ok (.getfield 39, 3) := by decide +kernel
theorem dX12_weds_89 : decode cX12_weds 89 = .ok (.bipush 32, 2) := by decide +kernel
theorem dX12_weds_91 : decode cX12_weds 91 = .ok (.iload_n 2, 1) := by decide +kernel
theorem dX12_weds_92 : decode cX12_weds 92 = .ok (.iadd, 1) := by decide +kernel
theorem dX12_weds_93 : decode cX12_weds 93 = .ok (.iload_n 3, 1) := by decide +kernel
theorem dX12_weds_94 : decode cX12_weds 94 = .ok (.iastore, 1) := by decide +kernel
theorem dX12_weds_95 : decode cX12_weds 95 = .ok (.aload_n 0, 1) := by decide +kernel
theorem dX12_weds_96 : decode cX12_weds 96 = .ok (.getfield 39, 3) := by decide +kernel
theorem dX12_weds_99 : decode cX12_weds 99 = .ok (.bipush 39, 2) := by decide +kernel
theorem dX12_weds_101 : decode cX12_weds 101 = .ok (.iload_n 1, 1) := by decide +kernel
theorem dX12_weds_102 : decode cX12_weds 102 = .ok (.iadd, 1) := by decide +kernel
theorem dX12_weds_103 : decode cX12_weds 103 = .ok (.dup2, 1) := by decide +kernel
theorem dX12_weds_104 : decode cX12_weds 104 = .ok (.iaload, 1) := by decide +kernel
theorem dX12_weds_105 : decode cX12_weds 105 = .ok (.iconst 1, 1) := by decide +kernel
theorem dX12_weds_106 : decode cX12_weds 106 = .ok (.isub, 1) := by decide +kernel
theorem dX12_weds_107 : decode cX12_weds 107 = .ok (.iastore, 1) := by decide +kernel
theorem dX12_weds_108 : decode cX12_weds 108 = .ok (.aload_n 0, 1) := by decide +kernel
theorem dX12_weds_109 : decode cX12_weds 109 = .ok (.getfield 39, 3) := by decide +kernel
theorem dX12_weds_112 : decode cX12_weds 112 = .ok (.bipush 39, 2) := by decide +kernel
theorem dX12_weds_114 : decode cX12_weds 114 = .ok (.iload_n 2, 1) := by decide +kernel
theorem dX12_weds_115 : decode cX12_weds 115 = .ok (.iadd, 1) := by decide +kernel
theorem dX12_weds_116 : decode cX12_weds 116 = .ok (.dup2, 1) := by decide +kernel
theorem dX12_weds_117 : decode cX12_weds 117 = .ok (.iaload, 1) := by decide +kernel
theorem dX12_weds_118 : decode cX12_weds 118 = .ok (.iconst 1, 1) := by decide +kernel
theorem dX12_weds_119 : decode cX12_weds 119 = .ok (.isub, 1) := by decide +kernel
theorem dX12_weds_120 : decode cX12_weds 120 = .ok (.iastore, 1) := by decide +kernel
theorem dX12_weds_121 : decode cX12_weds 121 = .ok (.return_, 1) := by decide +kernel
def m_weds (N : Nat) (a1 a2 : Int) (M : jMem) : Option (Int × jMem) := jchk (0 ≤ (w32 (32 + a1)) ∧ (w32 (32 + a1)) < 112) <| jlt ((M 10 ((w32 (32 + a1))))) fun v2 => jchk (0 ≤ (w32 (32 + a2)) ∧ (w32 (32 + a2)) < 112) <| jlt ((M 10 ((w32 (32 + a2))))) fun v4 => jchk (0 ≤ (w32 (18 + v4)) ∧ (w32 (18 + v4)) < 112) <| jchk (0 ≤ (w32 (18 + v2)) ∧ (w32 (18 + v2)) < 112) <| jlt ((w32 (((w32 (((M 10 ((w32 (18 + v4))))) - ((M 10 ((w32 (18 + v2)))))))).tdiv 3))) fun v7 => jchk (0 ≤ (w32 (18 + v2)) ∧ (w32 (18 + v2)) < 112) <| jchk (0 ≤ (w32 (18 + v2)) ∧ (w32 (18 + v2)) < 112) <| jlt (up M 10 ((w32 (18 + v2))) ((w32 (((M 10 ((w32 (18 + v2))))) + v7)))) fun M10 => jchk (0 ≤ (w32 (18 + v4)) ∧ (w32 (18 + v4)) < 112) <| jchk (0 ≤ (w32 (18 + v4)) ∧ (w32 (18 + v4)) < 112) <| jlt (up M10 10 ((w32 (18 + v4))) ((w32 (((M10 10 ((w32 (18 + v4))))) - v7)))) fun M13 => jchk (0 ≤ (w32 (32 + a1)) ∧ (w32 (32 + a1)) < 112) <| jlt (up M13 10 ((w32 (32 + a1))) v4) fun M15 => jchk (0 ≤ (w32 (32 + a2)) ∧ (w32 (32 + a2)) < 112) <| jlt (up M15 10 ((w32 (32 + a2))) v2) fun M17 => jchk (0 ≤ (w32 (39 + a1)) ∧ (w32 (39 + a1)) < 112) <| jchk (0 ≤ (w32 (39 + a1)) ∧ (w32 (39 + a1)) < 112) <| jlt (up M17 10 ((w32 (39 + a1))) ((w32 (((M17 10 ((w32 (39 + a1))))) - 1)))) fun M20 => jchk (0 ≤ (w32 (39 + a2)) ∧ (w32 (39 + a2)) < 112) <| jchk (0 ≤ (w32 (39 + a2)) ∧ (w32 (39 + a2)) < 112) <| jlt (up M20 10 ((w32 (39 + a2))) ((w32 (((M20 10 ((w32 (39 + a2))))) - 1)))) fun M23 => some (0, M23)
theorem c_m_weds {l : Launch} {g : jG} (N : Nat) (a1 a2 : Int) (M : jMem)  : ∀ o, m_weds N a1 a2 M = some o → jCt l g jTM yX12_weds cX12_weds 6 none 3 1 [(2, 0), (0, a1), (0, a2)] M o := by
  refine jMet (own := RX12) (em := id) (L := [(0, 2, 0), (1, 0, a1), (2, 0, a2)]) (by decide +kernel) rfl (Nat.le_of_ble_eq_true rfl) rfl (fun K hR => ?_)
  unfold m_weds
  refine z_aload_n (pc := 0) hR 0 dX12_weds_0 rfl rfl ?_
  refine z_getr (pc := 1) hR (c0 := 10) (r := 10) jf_RX12_39 kmo_0 (by decide) rfl rfl dX12_weds_1 ?_
  refine z_bipush (pc := 4) hR dX12_weds_4 rfl ?_
  refine z_iload_n (pc := 6) hR 1 dX12_weds_6 rfl rfl ?_
  refine z_iadd (pc := 7) hR dX12_weds_7 ?_
  refine z_chk (fun hc1 => ?_)
  refine z_iald (pc := 8) hR (n := 112) kma_10 hc1.1 hc1.2 dX12_weds_8 ?_
  refine z_let1 (fun v2 => ?_)
  refine z_istore_n (pc := 9) hR (lv' := [(3, 0, v2), (0, 2, 0), (1, 0, a1), (2, 0, a2)]) dX12_weds_9 rfl (by decide) rfl ?_
  refine z_aload_n (pc := 10) hR 1 dX12_weds_10 rfl rfl ?_
  refine z_getr (pc := 11) hR (c0 := 10) (r := 10) jf_RX12_39 kmo_0 (by decide) rfl rfl dX12_weds_11 ?_
  refine z_bipush (pc := 14) hR dX12_weds_14 rfl ?_
  refine z_iload_n (pc := 16) hR 3 dX12_weds_16 rfl rfl ?_
  refine z_iadd (pc := 17) hR dX12_weds_17 ?_
  refine z_chk (fun hc3 => ?_)
  refine z_iald (pc := 18) hR (n := 112) kma_10 hc3.1 hc3.2 dX12_weds_18 ?_
  refine z_let1 (fun v4 => ?_)
  refine z_istore (pc := 19) hR (lv' := [(4, 0, v4), (3, 0, v2), (0, 2, 0), (1, 0, a1), (2, 0, a2)]) dX12_weds_19 (by decide) rfl ?_
  refine z_aload_n (pc := 21) hR 2 dX12_weds_21 rfl rfl ?_
  refine z_getr (pc := 22) hR (c0 := 10) (r := 10) jf_RX12_39 kmo_0 (by decide) rfl rfl dX12_weds_22 ?_
  refine z_bipush (pc := 25) hR dX12_weds_25 rfl ?_
  refine z_iload (pc := 27) hR 0 dX12_weds_27 rfl ?_
  refine z_iadd (pc := 29) hR dX12_weds_29 ?_
  refine z_chk (fun hc5 => ?_)
  refine z_iald (pc := 30) hR (n := 112) kma_10 hc5.1 hc5.2 dX12_weds_30 ?_
  refine z_aload_n (pc := 31) hR 2 dX12_weds_31 rfl rfl ?_
  refine z_getr (pc := 32) hR (c0 := 10) (r := 10) jf_RX12_39 kmo_0 (by decide) rfl rfl dX12_weds_32 ?_
  refine z_bipush (pc := 35) hR dX12_weds_35 rfl ?_
  refine z_iload_n (pc := 37) hR 1 dX12_weds_37 rfl rfl ?_
  refine z_iadd (pc := 38) hR dX12_weds_38 ?_
  refine z_chk (fun hc6 => ?_)
  refine z_iald (pc := 39) hR (n := 112) kma_10 hc6.1 hc6.2 dX12_weds_39 ?_
  refine z_isub (pc := 40) hR dX12_weds_40 ?_
  refine z_iconst (pc := 41) hR dX12_weds_41 rfl ?_
  refine z_idiv (pc := 42) hR dX12_weds_42 (by decide) ?_
  refine z_let1 (fun v7 => ?_)
  refine z_istore (pc := 43) hR (lv' := [(5, 0, v7), (4, 0, v4), (3, 0, v2), (0, 2, 0), (1, 0, a1), (2, 0, a2)]) dX12_weds_43 (by decide) rfl ?_
  refine z_aload_n (pc := 45) hR 3 dX12_weds_45 rfl rfl ?_
  refine z_getr (pc := 46) hR (c0 := 10) (r := 10) jf_RX12_39 kmo_0 (by decide) rfl rfl dX12_weds_46 ?_
  refine z_bipush (pc := 49) hR dX12_weds_49 rfl ?_
  refine z_iload_n (pc := 51) hR 2 dX12_weds_51 rfl rfl ?_
  refine z_iadd (pc := 52) hR dX12_weds_52 ?_
  refine z_dup2 (pc := 53) hR dX12_weds_53 (by decide) (by decide) ?_
  refine z_chk (fun hc8 => ?_)
  refine z_iald (pc := 54) hR (n := 112) kma_10 hc8.1 hc8.2 dX12_weds_54 ?_
  refine z_iload (pc := 55) hR 0 dX12_weds_55 rfl ?_
  refine z_iadd (pc := 57) hR dX12_weds_57 ?_
  refine z_chk (fun hc9 => ?_)
  refine z_iast (pc := 58) hR (n := 112) kma_10 hc9.1 hc9.2 dX12_weds_58 (fun M10 => ?_)
  refine z_aload_n (pc := 59) hR 3 dX12_weds_59 rfl rfl ?_
  refine z_getr (pc := 60) hR (c0 := 10) (r := 10) jf_RX12_39 kmo_0 (by decide) rfl rfl dX12_weds_60 ?_
  refine z_bipush (pc := 63) hR dX12_weds_63 rfl ?_
  refine z_iload (pc := 65) hR 1 dX12_weds_65 rfl ?_
  refine z_iadd (pc := 67) hR dX12_weds_67 ?_
  refine z_dup2 (pc := 68) hR dX12_weds_68 (by decide) (by decide) ?_
  refine z_chk (fun hc11 => ?_)
  refine z_iald (pc := 69) hR (n := 112) kma_10 hc11.1 hc11.2 dX12_weds_69 ?_
  refine z_iload (pc := 70) hR 0 dX12_weds_70 rfl ?_
  refine z_isub (pc := 72) hR dX12_weds_72 ?_
  refine z_chk (fun hc12 => ?_)
  refine z_iast (pc := 73) hR (n := 112) kma_10 hc12.1 hc12.2 dX12_weds_73 (fun M13 => ?_)
  refine z_aload_n (pc := 74) hR 3 dX12_weds_74 rfl rfl ?_
  refine z_getr (pc := 75) hR (c0 := 10) (r := 10) jf_RX12_39 kmo_0 (by decide) rfl rfl dX12_weds_75 ?_
  refine z_bipush (pc := 78) hR dX12_weds_78 rfl ?_
  refine z_iload_n (pc := 80) hR 4 dX12_weds_80 rfl rfl ?_
  refine z_iadd (pc := 81) hR dX12_weds_81 ?_
  refine z_iload (pc := 82) hR 1 dX12_weds_82 rfl ?_
  refine z_chk (fun hc14 => ?_)
  refine z_iast (pc := 84) hR (n := 112) kma_10 hc14.1 hc14.2 dX12_weds_84 (fun M15 => ?_)
  refine z_aload_n (pc := 85) hR 3 dX12_weds_85 rfl rfl ?_
  refine z_getr (pc := 86) hR (c0 := 10) (r := 10) jf_RX12_39 kmo_0 (by decide) rfl rfl dX12_weds_86 ?_
  refine z_bipush (pc := 89) hR dX12_weds_89 rfl ?_
  refine z_iload_n (pc := 91) hR 5 dX12_weds_91 rfl rfl ?_
  refine z_iadd (pc := 92) hR dX12_weds_92 ?_
  refine z_iload_n (pc := 93) hR 2 dX12_weds_93 rfl rfl ?_
  refine z_chk (fun hc16 => ?_)
  refine z_iast (pc := 94) hR (n := 112) kma_10 hc16.1 hc16.2 dX12_weds_94 (fun M17 => ?_)
  refine z_aload_n (pc := 95) hR 3 dX12_weds_95 rfl rfl ?_
  refine z_getr (pc := 96) hR (c0 := 10) (r := 10) jf_RX12_39 kmo_0 (by decide) rfl rfl dX12_weds_96 ?_
  refine z_bipush (pc := 99) hR dX12_weds_99 rfl ?_
  refine z_iload_n (pc := 101) hR 4 dX12_weds_101 rfl rfl ?_
  refine z_iadd (pc := 102) hR dX12_weds_102 ?_
  refine z_dup2 (pc := 103) hR dX12_weds_103 (by decide) (by decide) ?_
  refine z_chk (fun hc18 => ?_)
  refine z_iald (pc := 104) hR (n := 112) kma_10 hc18.1 hc18.2 dX12_weds_104 ?_
  refine z_iconst (pc := 105) hR dX12_weds_105 rfl ?_
  refine z_isub (pc := 106) hR dX12_weds_106 ?_
  refine z_chk (fun hc19 => ?_)
  refine z_iast (pc := 107) hR (n := 112) kma_10 hc19.1 hc19.2 dX12_weds_107 (fun M20 => ?_)
  refine z_aload_n (pc := 108) hR 3 dX12_weds_108 rfl rfl ?_
  refine z_getr (pc := 109) hR (c0 := 10) (r := 10) jf_RX12_39 kmo_0 (by decide) rfl rfl dX12_weds_109 ?_
  refine z_bipush (pc := 112) hR dX12_weds_112 rfl ?_
  refine z_iload_n (pc := 114) hR 5 dX12_weds_114 rfl rfl ?_
  refine z_iadd (pc := 115) hR dX12_weds_115 ?_
  refine z_dup2 (pc := 116) hR dX12_weds_116 (by decide) (by decide) ?_
  refine z_chk (fun hc21 => ?_)
  refine z_iald (pc := 117) hR (n := 112) kma_10 hc21.1 hc21.2 dX12_weds_117 ?_
  refine z_iconst (pc := 118) hR dX12_weds_118 rfl ?_
  refine z_isub (pc := 119) hR dX12_weds_119 ?_
  refine z_chk (fun hc22 => ?_)
  refine z_iast (pc := 120) hR (n := 112) kma_10 hc22.1 hc22.2 dX12_weds_120 (fun M23 => ?_)
  exact z_return (x := 0) (pc := 121) hR rfl rfl dX12_weds_121 rfl
theorem dX12_lesser_0 : decode cX12_lesser 0 = .ok (.iload_n 0, 1) := by decide +kernel
theorem dX12_lesser_1 : decode cX12_lesser 1 = .ok (.iload_n 1, 1) := by decide +kernel
theorem dX12_lesser_2 : decode cX12_lesser 2 = .ok (.if_icmp .ge 7, 3) := by decide +kernel
theorem dX12_lesser_5 : decode cX12_lesser 5 = .ok (.iload_n 0, 1) := by decide +kernel
theorem dX12_lesser_6 : decode cX12_lesser 6 = .ok (.goto 4, 3) := by decide +kernel
theorem dX12_lesser_9 : decode cX12_lesser 9 = .ok (.iload_n 1, 1) := by decide +kernel
theorem dX12_lesser_10 : decode cX12_lesser 10 = .ok (.ireturn, 1) := by decide +kernel
def m_lesser (N : Nat) (a0 a1 : Int) (M : jMem) : Option Int := (if a0 < a1 then some a0 else some a1)
theorem c_m_lesser {l : Launch} {g : jG} (N : Nat) (a0 a1 : Int) (M : jMem)  : ∀ o, m_lesser N a0 a1 M = some o → jCt l g jTM yX12_lesser cX12_lesser 2 (some .int) 0 1 [(0, a0), (0, a1)] M (o, M) := by
  refine jMet (own := RX12) (em := (fun r => (r, M))) (L := [(0, 0, a0), (1, 0, a1)]) (by decide +kernel) rfl (Nat.le_of_ble_eq_true rfl) rfl (fun K hR => ?_)
  unfold m_lesser
  refine z_iload_n (pc := 0) hR 0 dX12_lesser_0 rfl rfl ?_
  refine z_iload_n (pc := 1) hR 1 dX12_lesser_1 rfl rfl ?_
  refine z_icmpge (pc := 2) (tgt := 9) hR dX12_lesser_2 (by decide) ?_ ?_
  · refine z_iload_n (pc := 9) hR 1 dX12_lesser_9 rfl rfl ?_
    exact z_ireturn (pc := 10) hR rfl rfl dX12_lesser_10 rfl
  · refine z_iload_n (pc := 5) hR 0 dX12_lesser_5 rfl rfl ?_
    refine z_goto (pc := 6) (tgt := 10) hR dX12_lesser_6 (by decide) ?_
    exact z_ireturn (pc := 10) hR rfl rfl dX12_lesser_10 rfl
theorem dX12_drawsAll_0 : decode cX12_drawsAll 0 = .ok (.iconst 0, 1) := by decide +kernel
theorem dX12_drawsAll_1 : decode cX12_drawsAll 1 = .ok (.istore_n 1, 1) := by decide +kernel
theorem dX12_drawsAll_2 : decode cX12_drawsAll 2 = .ok (.iload_n 1, 1) := by decide +kernel
theorem dX12_drawsAll_3 : decode cX12_drawsAll 3 = .ok (.aload_n 0, 1) := by decide +kernel
theorem dX12_drawsAll_4 : decode cX12_drawsAll 4 = .ok (.getfield 39, 3) := by decide +kernel
theorem dX12_drawsAll_7 : decode cX12_drawsAll 7 = .ok (.iconst 1, 1) := by decide +kernel
theorem dX12_drawsAll_8 : decode cX12_drawsAll 8 = .ok (.iaload, 1) := by decide +kernel
theorem dX12_drawsAll_9 : decode cX12_drawsAll 9 = .ok (.if_icmp .ge 64, 3) := by decide +kernel
theorem dX12_drawsAll_12 : decode cX12_drawsAll 12 = .ok (.aload_n 0, 1) := by decide +kernel
theorem dX12_drawsAll_13 : decode cX12_drawsAll 13 = .ok (.getfield 39, 3) := by decide +kernel
theorem dX12_drawsAll_16 : decode cX12_drawsAll 16 = .ok (.bipush 32, 2) := by decide +kernel
theorem dX12_drawsAll_18 : decode cX12_drawsAll 18 = .ok (.iload_n 1, 1) := by decide +kernel
theorem dX12_drawsAll_19 : decode cX12_drawsAll 19 = .ok (.iadd, 1) := by decide +kernel
theorem dX12_drawsAll_20 : decode cX12_drawsAll 20 = .ok (.iaload, 1) := by decide +kernel
theorem dX12_drawsAll_21 : decode cX12_drawsAll 21 = .ok (.istore_n 2, 1) := by decide +kernel
theorem dX12_drawsAll_22 : decode cX12_drawsAll 22 = .ok (.aload_n 0, 1) := by decide +kernel
theorem dX12_drawsAll_23 : decode cX12_drawsAll 23 = .ok (.getfield 46, 3) := by decide +kernel
theorem dX12_drawsAll_26 : decode cX12_drawsAll 26 = .ok (.iload_n 1, 1) := by decide +kernel
theorem dX12_drawsAll_27 : decode cX12_drawsAll 27 = .ok (.aload_n 0, 1) := by decide +kernel
theorem dX12_drawsAll_28 : decode cX12_drawsAll 28 = .ok (.getfield 39, 3) := by decide +kernel
theorem dX12_drawsAll_31 : decode cX12_drawsAll 31 = .ok (.bipush 46, 2) := by decide +kernel
theorem dX12_drawsAll_33 : decode cX12_drawsAll 33 = .ok (.iload_n 1, 1) := by decide +kernel
theorem dX12_drawsAll_34 : decode cX12_drawsAll 34 = .ok (.iadd, 1) := by decide +kernel
theorem dX12_drawsAll_35 : decode cX12_drawsAll 35 = .ok (.iaload, 1) := by decide +kernel
theorem dX12_drawsAll_36 : decode cX12_drawsAll 36 = .ok (.aload_n 0, 1) := by decide +kernel
theorem dX12_drawsAll_37 : decode cX12_drawsAll 37 = .ok (.getfield 39, 3) := by decide +kernel
theorem dX12_drawsAll_40 : decode cX12_drawsAll 40 = .ok (.bipush 25, 2) := by decide +kernel
theorem dX12_drawsAll_42 : decode cX12_drawsAll 42 = .ok (.iload_n 2, 1) := by decide +kernel
theorem dX12_drawsAll_43 : decode cX12_drawsAll 43 = .ok (.iadd, 1) := by decide +kernel
theorem dX12_drawsAll_44 : decode cX12_drawsAll 44 = .ok (.iaload, 1) := by decide +kernel
theorem dX12_drawsAll_45 : decode cX12_drawsAll 45 = .ok (.invokestatic 340, 3) := by decide +kernel
theorem dX12_drawsAll_48 : decode cX12_drawsAll 48 = .ok (.iastore, 1) := by decide +kernel
theorem dX12_drawsAll_49 : decode cX12_drawsAll 49 = .ok (.aload_n 0, 1) := by decide +kernel
theorem dX12_drawsAll_50 : decode cX12_drawsAll 50 = .ok (.getfield 39, 3) := by decide +kernel
theorem dX12_drawsAll_53 : decode cX12_drawsAll 53 = .ok (.bipush 25, 2) := by decide +kernel
theorem dX12_drawsAll_55 : decode cX12_drawsAll 55 = .ok (.iload_n 2, 1) := by decide +kernel
theorem dX12_drawsAll_56 : decode cX12_drawsAll 56 = .ok (.iadd, 1) := by decide +kernel
theorem dX12_drawsAll_57 : decode cX12_drawsAll 57 = .ok (.dup2, 1) := by decide +kernel
theorem dX12_drawsAll_58 : decode cX12_drawsAll 58 = .ok (.iaload, 1) := by decide +kernel
theorem dX12_drawsAll_59 : decode cX12_drawsAll 59 = .ok (.aload_n 0, 1) := by decide +kernel
theorem dX12_drawsAll_60 : decode cX12_drawsAll 60 = .ok (.getfield 46, 3) := by decide +kernel
theorem dX12_drawsAll_63 : decode cX12_drawsAll 63 = .ok (.iload_n 1, 1) := by decide +kernel
theorem dX12_drawsAll_64 : decode cX12_drawsAll 64 = .ok (.iaload, 1) := by decide +kernel
theorem dX12_drawsAll_65 : decode cX12_drawsAll 65 = .ok (.isub, 1) := by decide +kernel
theorem dX12_drawsAll_66 : decode cX12_drawsAll 66 = .ok (.iastore, 1) := by decide +kernel
theorem dX12_drawsAll_67 : decode cX12_drawsAll 67 = .ok (.iinc 1 1, 3) := by decide +kernel
theorem dX12_drawsAll_70 : decode cX12_drawsAll 70 = .ok (.goto (-68), 3) := by decide +kernel
theorem dX12_drawsAll_73 : decode cX12_drawsAll 73 = .ok (.return_, 1) := by decide +kernel
def m_drawsAll_L2 (N : Nat)  (h2 : (Int × jMem) → Option (Int × jMem)) : Int × jMem → Option (Int × jMem)
  | (x1, M2) => (if x1 < (M2 10 1) then jchk (0 ≤ (w32 (32 + x1)) ∧ (w32 (32 + x1)) < 112) <| jlt ((M2 10 ((w32 (32 + x1))))) fun v4 => jchk (0 ≤ (w32 (46 + x1)) ∧ (w32 (46 + x1)) < 112) <| jchk (0 ≤ (w32 (25 + v4)) ∧ (w32 (25 + v4)) < 112) <| (m_lesser N ((M2 10 ((w32 (46 + x1))))) ((M2 10 ((w32 (25 + v4))))) M2).bind fun r7 => jchk (0 ≤ x1 ∧ x1 < 7) <| jlt (up M2 11 x1 r7) fun M9 => jchk (0 ≤ (w32 (25 + v4)) ∧ (w32 (25 + v4)) < 112) <| jchk (0 ≤ x1 ∧ x1 < 7) <| jchk (0 ≤ (w32 (25 + v4)) ∧ (w32 (25 + v4)) < 112) <| jlt (up M9 10 ((w32 (25 + v4))) ((w32 (((M9 10 ((w32 (25 + v4))))) - ((M9 11 x1)))))) fun M13 => h2 ((w32 (x1 + 1)), M13) else some (0, M2))
def m_drawsAll (N : Nat) (M : jMem) : Option (Int × jMem) := jfix N (m_drawsAll_L2 N) (0, M)
theorem c_m_drawsAll {l : Launch} {g : jG} (N : Nat) (M : jMem)  : ∀ o, m_drawsAll N  M = some o → jCt l g jTM yX12_drawsAll cX12_drawsAll 3 none 3 3 [(2, 0)] M o := by
  refine jMet (own := RX12) (em := id) (L := [(0, 2, 0)]) (by decide +kernel) rfl (Nat.le_of_ble_eq_true rfl) rfl (fun K hR => ?_)
  unfold m_drawsAll
  refine z_iconst (pc := 0) hR dX12_drawsAll_0 rfl ?_
  refine z_istore_n (pc := 1) hR (lv' := [(1, 0, 0), (0, 2, 0)]) dX12_drawsAll_1 rfl (by decide) rfl ?_
  refine z_pick (pc := 2) (lv' := [(0, 2, 0), (1, 0, 0)]) hR [1, 0] rfl ?_
  refine z_fix (σ := Int × jMem) (lv := fun s => [(0, 2, 0), (1, 0, s.1)]) (st := fun _ => []) (M := fun s => s.2) (fun h2 hh2 => ?_) N (0, M)
  rintro ⟨x1, M2⟩
  show jZ K id 2 [(0, 2, 0), (1, 0, x1)] [] M2 _
  unfold m_drawsAll_L2
  refine z_iload_n (pc := 2) hR 1 dX12_drawsAll_2 rfl rfl ?_
  refine z_aload_n (pc := 3) hR 0 dX12_drawsAll_3 rfl rfl ?_
  refine z_getr (pc := 4) hR (c0 := 10) (r := 10) jf_RX12_39 kmo_0 (by decide) rfl rfl dX12_drawsAll_4 ?_
  refine z_iconst (pc := 7) hR dX12_drawsAll_7 rfl ?_
  refine z_iald (pc := 8) hR (n := 112) kma_10 (by decide) (by decide) dX12_drawsAll_8 ?_
  refine z_icmpge (pc := 9) (tgt := 73) hR dX12_drawsAll_9 (by decide) ?_ ?_
  · exact z_return (x := 0) (pc := 73) hR rfl rfl dX12_drawsAll_73 rfl
  · refine z_aload_n (pc := 12) hR 0 dX12_drawsAll_12 rfl rfl ?_
    refine z_getr (pc := 13) hR (c0 := 10) (r := 10) jf_RX12_39 kmo_0 (by decide) rfl rfl dX12_drawsAll_13 ?_
    refine z_bipush (pc := 16) hR dX12_drawsAll_16 rfl ?_
    refine z_iload_n (pc := 18) hR 1 dX12_drawsAll_18 rfl rfl ?_
    refine z_iadd (pc := 19) hR dX12_drawsAll_19 ?_
    refine z_chk (fun hc3 => ?_)
    refine z_iald (pc := 20) hR (n := 112) kma_10 hc3.1 hc3.2 dX12_drawsAll_20 ?_
    refine z_let1 (fun v4 => ?_)
    refine z_istore_n (pc := 21) hR (lv' := [(2, 0, v4), (0, 2, 0), (1, 0, x1)]) dX12_drawsAll_21 rfl (by decide) rfl ?_
    refine z_aload_n (pc := 22) hR 1 dX12_drawsAll_22 rfl rfl ?_
    refine z_getr (pc := 23) hR (c0 := 11) (r := 11) jf_RX12_46 kmo_0 (by decide) rfl rfl dX12_drawsAll_23 ?_
    refine z_iload_n (pc := 26) hR 2 dX12_drawsAll_26 rfl rfl ?_
    refine z_aload_n (pc := 27) hR 1 dX12_drawsAll_27 rfl rfl ?_
    refine z_getr (pc := 28) hR (c0 := 10) (r := 10) jf_RX12_39 kmo_0 (by decide) rfl rfl dX12_drawsAll_28 ?_
    refine z_bipush (pc := 31) hR dX12_drawsAll_31 rfl ?_
    refine z_iload_n (pc := 33) hR 2 dX12_drawsAll_33 rfl rfl ?_
    refine z_iadd (pc := 34) hR dX12_drawsAll_34 ?_
    refine z_chk (fun hc5 => ?_)
    refine z_iald (pc := 35) hR (n := 112) kma_10 hc5.1 hc5.2 dX12_drawsAll_35 ?_
    refine z_aload_n (pc := 36) hR 1 dX12_drawsAll_36 rfl rfl ?_
    refine z_getr (pc := 37) hR (c0 := 10) (r := 10) jf_RX12_39 kmo_0 (by decide) rfl rfl dX12_drawsAll_37 ?_
    refine z_bipush (pc := 40) hR dX12_drawsAll_40 rfl ?_
    refine z_iload_n (pc := 42) hR 0 dX12_drawsAll_42 rfl rfl ?_
    refine z_iadd (pc := 43) hR dX12_drawsAll_43 ?_
    refine z_chk (fun hc6 => ?_)
    refine z_iald (pc := 44) hR (n := 112) kma_10 hc6.1 hc6.2 dX12_drawsAll_44 ?_
    refine z_callsp (pc := 45) hR (As := [(0, (M2 10 ((w32 (46 + x1))))), (0, (M2 10 ((w32 (25 + v4)))))]) (st := [(0, x1), (2, 11)]) jm_X12_lesser jl_RX12_340 (by decide) (c_m_lesser N ((M2 10 ((w32 (46 + x1))))) ((M2 10 ((w32 (25 + v4))))) M2) rfl (by decide) (by decide) rfl (Nat.le_of_ble_eq_true rfl) dX12_drawsAll_45 (fun r7 => ?_)
    refine z_chk (fun hc8 => ?_)
    refine z_iast (pc := 48) hR (n := 7) kma_11 hc8.1 hc8.2 dX12_drawsAll_48 (fun M9 => ?_)
    refine z_aload_n (pc := 49) hR 1 dX12_drawsAll_49 rfl rfl ?_
    refine z_getr (pc := 50) hR (c0 := 10) (r := 10) jf_RX12_39 kmo_0 (by decide) rfl rfl dX12_drawsAll_50 ?_
    refine z_bipush (pc := 53) hR dX12_drawsAll_53 rfl ?_
    refine z_iload_n (pc := 55) hR 0 dX12_drawsAll_55 rfl rfl ?_
    refine z_iadd (pc := 56) hR dX12_drawsAll_56 ?_
    refine z_dup2 (pc := 57) hR dX12_drawsAll_57 (by decide) (by decide) ?_
    refine z_chk (fun hc10 => ?_)
    refine z_iald (pc := 58) hR (n := 112) kma_10 hc10.1 hc10.2 dX12_drawsAll_58 ?_
    refine z_aload_n (pc := 59) hR 1 dX12_drawsAll_59 rfl rfl ?_
    refine z_getr (pc := 60) hR (c0 := 11) (r := 11) jf_RX12_46 kmo_0 (by decide) rfl rfl dX12_drawsAll_60 ?_
    refine z_iload_n (pc := 63) hR 2 dX12_drawsAll_63 rfl rfl ?_
    refine z_chk (fun hc11 => ?_)
    refine z_iald (pc := 64) hR (n := 7) kma_11 hc11.1 hc11.2 dX12_drawsAll_64 ?_
    refine z_isub (pc := 65) hR dX12_drawsAll_65 ?_
    refine z_chk (fun hc12 => ?_)
    refine z_iast (pc := 66) hR (n := 112) kma_10 hc12.1 hc12.2 dX12_drawsAll_66 (fun M13 => ?_)
    refine z_iinc (pc := 67) hR (j := 2) (lv' := [(1, 0, (w32 (x1 + 1))), (2, 0, v4), (0, 2, 0)]) dX12_drawsAll_67 rfl (by decide) rfl ?_
    refine z_goto (pc := 70) (tgt := 2) hR dX12_drawsAll_70 (by decide) ?_
    refine z_pick (pc := 2) (lv' := [(0, 2, 0), (1, 0, (w32 (x1 + 1)))]) hR [2, 0] rfl ?_
    exact hh2 ((w32 (x1 + 1)), M13)
theorem dX12_rainsOn_0 : decode cX12_rainsOn 0 = .ok (.aload_n 0, 1) := by decide +kernel
theorem dX12_rainsOn_1 : decode cX12_rainsOn 1 = .ok (.iconst 0, 1) := by decide +kernel
theorem dX12_rainsOn_2 : decode cX12_rainsOn 2 = .ok (.putfield 344, 3) := by decide +kernel
theorem dX12_rainsOn_5 : decode cX12_rainsOn 5 = .ok (.iconst 0, 1) := by decide +kernel
theorem dX12_rainsOn_6 : decode cX12_rainsOn 6 = .ok (.istore_n 1, 1) := by decide +kernel
theorem dX12_rainsOn_7 : decode cX12_rainsOn 7 = .ok (.iload_n 1, 1) := by decide +kernel
theorem dX12_rainsOn_8 : decode cX12_rainsOn 8 = .ok (.aload_n 0, 1) := by decide +kernel
theorem dX12_rainsOn_9 : decode cX12_rainsOn 9 = .ok (.getfield 39, 3) := by decide +kernel
theorem dX12_rainsOn_12 : decode cX12_rainsOn 12 = .ok (.iconst 1, 1) := by decide +kernel
theorem dX12_rainsOn_13 : decode cX12_rainsOn 13 = .ok (.iaload, 1) := by decide +kernel
theorem dX12_rainsOn_14 : decode cX12_rainsOn 14 = .ok (.if_icmp .ge 98, 3) := by decide +kernel
theorem dX12_rainsOn_17 : decode cX12_rainsOn 17 = .ok (.aload_n 0, 1) := by decide +kernel
theorem dX12_rainsOn_18 : decode cX12_rainsOn 18 = .ok (.getfield 39, 3) := by decide +kernel
theorem dX12_rainsOn_21 : decode cX12_rainsOn 21 = .ok (.bipush 25, 2) := by decide +kernel
theorem dX12_rainsOn_23 : decode cX12_rainsOn 23 = .ok (.iload_n 1, 1) := by decide +kernel
theorem dX12_rainsOn_24 : decode cX12_rainsOn 24 = .ok (.iadd, 1) := by decide +kernel
theorem dX12_rainsOn_25 : decode cX12_rainsOn 25 = .ok (.aload_n 0, 1) := by decide +kernel
theorem dX12_rainsOn_26 : decode cX12_rainsOn 26 = .ok (.getfield 39, 3) := by decide +kernel
theorem dX12_rainsOn_29 : decode cX12_rainsOn 29 = .ok (.bipush 25, 2) := by decide +kernel
theorem dX12_rainsOn_31 : decode cX12_rainsOn 31 = .ok (.iload_n 1, 1) := by decide +kernel
theorem dX12_rainsOn_32 : decode cX12_rainsOn 32 = .ok (.iadd, 1) := by decide +kernel
theorem dX12_rainsOn_33 : decode cX12_rainsOn 33 = .ok (.iaload, 1) := by decide +kernel
theorem dX12_rainsOn_34 : decode cX12_rainsOn 34 = .ok (.aload_n 0, 1) := by decide +kernel
theorem dX12_rainsOn_35 : decode cX12_rainsOn 35 = .ok (.getfield 39, 3) := by decide +kernel
theorem dX12_rainsOn_38 : decode cX12_rainsOn 38 = .ok (.iconst 2, 1) := by decide +kernel
theorem dX12_rainsOn_39 : decode cX12_rainsOn 39 = .ok (.iaload, 1) := by decide +kernel
theorem dX12_rainsOn_40 : decode cX12_rainsOn 40 = .ok (.iadd, 1) := by decide +kernel
theorem dX12_rainsOn_41 : decode cX12_rainsOn 41 = .ok (.aload_n 0, 1) := by decide +kernel
theorem dX12_rainsOn_42 : decode cX12_rainsOn 42 = .ok (.getfield 39, 3) := by decide +kernel
theorem dX12_rainsOn_45 : decode cX12_rainsOn 45 = .ok (.bipush 11, 2) := by decide +kernel
theorem dX12_rainsOn_47 : decode cX12_rainsOn 47 = .ok (.iload_n 1, 1) := by decide +kernel
theorem dX12_rainsOn_48 : decode cX12_rainsOn 48 = .ok (.iadd, 1) := by decide +kernel
theorem dX12_rainsOn_49 : decode cX12_rainsOn 49 = .ok (.iaload, 1) := by decide +kernel
theorem dX12_rainsOn_50 : decode cX12_rainsOn 50 = .ok (.invokestatic 340, 3) := by decide +kernel
theorem dX12_rainsOn_53 : decode cX12_rainsOn 53 = .ok (.iastore, 1) := by decide +kernel
theorem dX12_rainsOn_54 : decode cX12_rainsOn 54 = .ok (.aload_n 0, 1) := by decide +kernel
theorem dX12_rainsOn_55 : decode cX12_rainsOn 55 = .ok (.getfield 39, 3) := by decide +kernel
theorem dX12_rainsOn_58 : decode cX12_rainsOn 58 = .ok (.bipush 25, 2) := by decide +kernel
theorem dX12_rainsOn_60 : decode cX12_rainsOn 60 = .ok (.iload_n 1, 1) := by decide +kernel
theorem dX12_rainsOn_61 : decode cX12_rainsOn 61 = .ok (.iadd, 1) := by decide +kernel
theorem dX12_rainsOn_62 : decode cX12_rainsOn 62 = .ok (.iaload, 1) := by decide +kernel
theorem dX12_rainsOn_63 : decode cX12_rainsOn 63 = .ok (.ifCond .le 6, 3) := by decide +kernel
theorem dX12_rainsOn_66 : decode cX12_rainsOn 66 = .ok (.goto 40, 3) := by decide +kernel
theorem dX12_rainsOn_69 : decode cX12_rainsOn 69 = .ok (.aload_n 0, 1) := by decide +kernel
theorem dX12_rainsOn_70 : decode cX12_rainsOn 70 = .ok (.getfield 39, 3) := by decide +kernel
theorem dX12_rainsOn_73 : decode cX12_rainsOn 73 = .ok (.bipush 11, 2) := by decide +kernel
theorem dX12_rainsOn_75 : decode cX12_rainsOn 75 = .ok (.iload_n 1, 1) := by decide +kernel
theorem dX12_rainsOn_76 : decode cX12_rainsOn 76 = .ok (.iadd, 1) := by decide +kernel
theorem dX12_rainsOn_77 : decode cX12_rainsOn 77 = .ok (.aload_n 0, 1) := by decide +kernel
theorem dX12_rainsOn_78 : decode cX12_rainsOn 78 = .ok (.getfield 39, 3) := by decide +kernel
theorem dX12_rainsOn_81 : decode cX12_rainsOn 81 = .ok (.bipush 11, 2) := by decide +kernel
theorem dX12_rainsOn_83 : decode cX12_rainsOn 83 = .ok (.iload_n 1, 1) := by decide +kernel
theorem dX12_rainsOn_84 : decode cX12_rainsOn 84 = .ok (.iadd, 1) := by decide +kernel
theorem dX12_rainsOn_85 : decode cX12_rainsOn 85 = .ok (.iaload, 1) := by decide +kernel
theorem dX12_rainsOn_86 : decode cX12_rainsOn 86 = .ok (.iconst 1, 1) := by decide +kernel
theorem dX12_rainsOn_87 : decode cX12_rainsOn 87 = .ok (.iadd, 1) := by decide +kernel
theorem dX12_rainsOn_88 : decode cX12_rainsOn 88 = .ok (.bipush 40, 2) := by decide +kernel
theorem dX12_rainsOn_90 : decode cX12_rainsOn 90 = .ok (.invokestatic 340, 3) := by decide +kernel
theorem dX12_rainsOn_93 : decode cX12_rainsOn 93 = .ok (.iastore, 1) := by decide +kernel
theorem dX12_rainsOn_94 : decode cX12_rainsOn 94 = .ok (.aload_n 0, 1) := by decide +kernel
theorem dX12_rainsOn_95 : decode cX12_rainsOn 95 = .ok (.dup, 1) := by decide +kernel
theorem dX12_rainsOn_96 : decode cX12_rainsOn 96 = .ok (.getfield 344, 3) := by decide +kernel
theorem dX12_rainsOn_99 : decode cX12_rainsOn 99 = .ok (.iconst 1, 1) := by decide +kernel
theorem dX12_rainsOn_100 : decode cX12_rainsOn 100 = .ok (.iload_n 1, 1) := by decide +kernel
theorem dX12_rainsOn_101 : decode cX12_rainsOn 101 = .ok (.ishl, 1) := by decide +kernel
theorem dX12_rainsOn_102 : decode cX12_rainsOn 102 = .ok (.ior, 1) := by decide +kernel
theorem dX12_rainsOn_103 : decode cX12_rainsOn 103 = .ok (.putfield 344, 3) := by decide +kernel
theorem dX12_rainsOn_106 : decode cX12_rainsOn 106 = .ok (.iinc 1 1, 3) := by decide +kernel
theorem dX12_rainsOn_109 : decode cX12_rainsOn 109 = .ok (.goto (-102), 3) := by decide +kernel
theorem dX12_rainsOn_112 : decode cX12_rainsOn 112 = .ok (.return_, 1) := by decide +kernel
def m_rainsOn_L7 (N : Nat)  (h7 : (Int × jMem) → Option (Int × jMem)) : Int × jMem → Option (Int × jMem)
  | (x2, M3) => (if x2 < (M3 10 1) then jchk (0 ≤ (w32 (25 + x2)) ∧ (w32 (25 + x2)) < 112) <| jchk (0 ≤ (w32 (11 + x2)) ∧ (w32 (11 + x2)) < 112) <| (m_lesser N ((w32 (((M3 10 ((w32 (25 + x2))))) + ((M3 10 2))))) ((M3 10 ((w32 (11 + x2))))) M3).bind fun r6 => jchk (0 ≤ (w32 (25 + x2)) ∧ (w32 (25 + x2)) < 112) <| jlt (up M3 10 ((w32 (25 + x2))) r6) fun M8 => jchk (0 ≤ (w32 (25 + x2)) ∧ (w32 (25 + x2)) < 112) <| (if 0 < (M8 10 ((w32 (25 + x2)))) then h7 ((w32 (x2 + 1)), M8) else jchk (0 ≤ (w32 (11 + x2)) ∧ (w32 (11 + x2)) < 112) <| (m_lesser N ((w32 (((M8 10 ((w32 (11 + x2))))) + 1))) 40 M8).bind fun r11 => jchk (0 ≤ (w32 (11 + x2)) ∧ (w32 (11 + x2)) < 112) <| jlt (up M8 10 ((w32 (11 + x2))) r11) fun M13 => jlt (up M13 0 24 ((jor ((M13 0 24)) ((jshl 1 x2))))) fun M14 => h7 ((w32 (x2 + 1)), M14)) else some (0, M3))
def m_rainsOn (N : Nat) (M : jMem) : Option (Int × jMem) := jlt (up M 0 24 0) fun M1 => jfix N (m_rainsOn_L7 N) (0, M1)
theorem c_m_rainsOn {l : Launch} {g : jG} (N : Nat) (M : jMem)  : ∀ o, m_rainsOn N  M = some o → jCt l g jTM yX12_rainsOn cX12_rainsOn 2 none 3 3 [(2, 0)] M o := by
  refine jMet (own := RX12) (em := id) (L := [(0, 2, 0)]) (by decide +kernel) rfl (Nat.le_of_ble_eq_true rfl) rfl (fun K hR => ?_)
  unfold m_rainsOn
  refine z_aload_n (pc := 0) hR 0 dX12_rainsOn_0 rfl rfl ?_
  refine z_iconst (pc := 1) hR dX12_rainsOn_1 rfl ?_
  refine z_puti (pc := 2) hR (j := 24) jp_RX12_344 kmo_0 (by decide) rfl rfl rfl rfl dX12_rainsOn_2 (fun M1 => ?_)
  refine z_iconst (pc := 5) hR dX12_rainsOn_5 rfl ?_
  refine z_istore_n (pc := 6) hR (lv' := [(1, 0, 0), (0, 2, 0)]) dX12_rainsOn_6 rfl (by decide) rfl ?_
  refine z_pick (pc := 7) (lv' := [(0, 2, 0), (1, 0, 0)]) hR [1, 0] rfl ?_
  refine z_fix (σ := Int × jMem) (lv := fun s => [(0, 2, 0), (1, 0, s.1)]) (st := fun _ => []) (M := fun s => s.2) (fun h7 hh7 => ?_) N (0, M1)
  rintro ⟨x2, M3⟩
  show jZ K id 7 [(0, 2, 0), (1, 0, x2)] [] M3 _
  unfold m_rainsOn_L7
  refine z_iload_n (pc := 7) hR 1 dX12_rainsOn_7 rfl rfl ?_
  refine z_aload_n (pc := 8) hR 0 dX12_rainsOn_8 rfl rfl ?_
  refine z_getr (pc := 9) hR (c0 := 10) (r := 10) jf_RX12_39 kmo_0 (by decide) rfl rfl dX12_rainsOn_9 ?_
  refine z_iconst (pc := 12) hR dX12_rainsOn_12 rfl ?_
  refine z_iald (pc := 13) hR (n := 112) kma_10 (by decide) (by decide) dX12_rainsOn_13 ?_
  refine z_icmpge (pc := 14) (tgt := 112) hR dX12_rainsOn_14 (by decide) ?_ ?_
  · exact z_return (x := 0) (pc := 112) hR rfl rfl dX12_rainsOn_112 rfl
  · refine z_aload_n (pc := 17) hR 0 dX12_rainsOn_17 rfl rfl ?_
    refine z_getr (pc := 18) hR (c0 := 10) (r := 10) jf_RX12_39 kmo_0 (by decide) rfl rfl dX12_rainsOn_18 ?_
    refine z_bipush (pc := 21) hR dX12_rainsOn_21 rfl ?_
    refine z_iload_n (pc := 23) hR 1 dX12_rainsOn_23 rfl rfl ?_
    refine z_iadd (pc := 24) hR dX12_rainsOn_24 ?_
    refine z_aload_n (pc := 25) hR 0 dX12_rainsOn_25 rfl rfl ?_
    refine z_getr (pc := 26) hR (c0 := 10) (r := 10) jf_RX12_39 kmo_0 (by decide) rfl rfl dX12_rainsOn_26 ?_
    refine z_bipush (pc := 29) hR dX12_rainsOn_29 rfl ?_
    refine z_iload_n (pc := 31) hR 1 dX12_rainsOn_31 rfl rfl ?_
    refine z_iadd (pc := 32) hR dX12_rainsOn_32 ?_
    refine z_chk (fun hc4 => ?_)
    refine z_iald (pc := 33) hR (n := 112) kma_10 hc4.1 hc4.2 dX12_rainsOn_33 ?_
    refine z_aload_n (pc := 34) hR 0 dX12_rainsOn_34 rfl rfl ?_
    refine z_getr (pc := 35) hR (c0 := 10) (r := 10) jf_RX12_39 kmo_0 (by decide) rfl rfl dX12_rainsOn_35 ?_
    refine z_iconst (pc := 38) hR dX12_rainsOn_38 rfl ?_
    refine z_iald (pc := 39) hR (n := 112) kma_10 (by decide) (by decide) dX12_rainsOn_39 ?_
    refine z_iadd (pc := 40) hR dX12_rainsOn_40 ?_
    refine z_aload_n (pc := 41) hR 0 dX12_rainsOn_41 rfl rfl ?_
    refine z_getr (pc := 42) hR (c0 := 10) (r := 10) jf_RX12_39 kmo_0 (by decide) rfl rfl dX12_rainsOn_42 ?_
    refine z_bipush (pc := 45) hR dX12_rainsOn_45 rfl ?_
    refine z_iload_n (pc := 47) hR 1 dX12_rainsOn_47 rfl rfl ?_
    refine z_iadd (pc := 48) hR dX12_rainsOn_48 ?_
    refine z_chk (fun hc5 => ?_)
    refine z_iald (pc := 49) hR (n := 112) kma_10 hc5.1 hc5.2 dX12_rainsOn_49 ?_
    refine z_callsp (pc := 50) hR (As := [(0, (w32 (((M3 10 ((w32 (25 + x2))))) + ((M3 10 2))))), (0, (M3 10 ((w32 (11 + x2)))))]) (st := [(0, (w32 (25 + x2))), (2, 10)]) jm_X12_lesser jl_RX12_340 (by decide) (c_m_lesser N ((w32 (((M3 10 ((w32 (25 + x2))))) + ((M3 10 2))))) ((M3 10 ((w32 (11 + x2))))) M3) rfl (by decide) (by decide) rfl (Nat.le_of_ble_eq_true rfl) dX12_rainsOn_50 (fun r6 => ?_)
    refine z_chk (fun hc7 => ?_)
    refine z_iast (pc := 53) hR (n := 112) kma_10 hc7.1 hc7.2 dX12_rainsOn_53 (fun M8 => ?_)
    refine z_aload_n (pc := 54) hR 0 dX12_rainsOn_54 rfl rfl ?_
    refine z_getr (pc := 55) hR (c0 := 10) (r := 10) jf_RX12_39 kmo_0 (by decide) rfl rfl dX12_rainsOn_55 ?_
    refine z_bipush (pc := 58) hR dX12_rainsOn_58 rfl ?_
    refine z_iload_n (pc := 60) hR 1 dX12_rainsOn_60 rfl rfl ?_
    refine z_iadd (pc := 61) hR dX12_rainsOn_61 ?_
    refine z_chk (fun hc9 => ?_)
    refine z_iald (pc := 62) hR (n := 112) kma_10 hc9.1 hc9.2 dX12_rainsOn_62 ?_
    refine z_ifle (pc := 63) (tgt := 69) hR dX12_rainsOn_63 (by decide) ?_ ?_
    · refine z_aload_n (pc := 69) hR 0 dX12_rainsOn_69 rfl rfl ?_
      refine z_getr (pc := 70) hR (c0 := 10) (r := 10) jf_RX12_39 kmo_0 (by decide) rfl rfl dX12_rainsOn_70 ?_
      refine z_bipush (pc := 73) hR dX12_rainsOn_73 rfl ?_
      refine z_iload_n (pc := 75) hR 1 dX12_rainsOn_75 rfl rfl ?_
      refine z_iadd (pc := 76) hR dX12_rainsOn_76 ?_
      refine z_aload_n (pc := 77) hR 0 dX12_rainsOn_77 rfl rfl ?_
      refine z_getr (pc := 78) hR (c0 := 10) (r := 10) jf_RX12_39 kmo_0 (by decide) rfl rfl dX12_rainsOn_78 ?_
      refine z_bipush (pc := 81) hR dX12_rainsOn_81 rfl ?_
      refine z_iload_n (pc := 83) hR 1 dX12_rainsOn_83 rfl rfl ?_
      refine z_iadd (pc := 84) hR dX12_rainsOn_84 ?_
      refine z_chk (fun hc10 => ?_)
      refine z_iald (pc := 85) hR (n := 112) kma_10 hc10.1 hc10.2 dX12_rainsOn_85 ?_
      refine z_iconst (pc := 86) hR dX12_rainsOn_86 rfl ?_
      refine z_iadd (pc := 87) hR dX12_rainsOn_87 ?_
      refine z_bipush (pc := 88) hR dX12_rainsOn_88 rfl ?_
      refine z_callsp (pc := 90) hR (As := [(0, (w32 (((M8 10 ((w32 (11 + x2))))) + 1))), (0, 40)]) (st := [(0, (w32 (11 + x2))), (2, 10)]) jm_X12_lesser jl_RX12_340 (by decide) (c_m_lesser N ((w32 (((M8 10 ((w32 (11 + x2))))) + 1))) 40 M8) rfl (by decide) (by decide) rfl (Nat.le_of_ble_eq_true rfl) dX12_rainsOn_90 (fun r11 => ?_)
      refine z_chk (fun hc12 => ?_)
      refine z_iast (pc := 93) hR (n := 112) kma_10 hc12.1 hc12.2 dX12_rainsOn_93 (fun M13 => ?_)
      refine z_aload_n (pc := 94) hR 0 dX12_rainsOn_94 rfl rfl ?_
      refine z_dup (pc := 95) hR dX12_rainsOn_95 (by decide) ?_
      refine z_geti (pc := 96) hR (j := 24) jf_RX12_344 kmo_0 (by decide) rfl rfl dX12_rainsOn_96 ?_
      refine z_iconst (pc := 99) hR dX12_rainsOn_99 rfl ?_
      refine z_iload_n (pc := 100) hR 1 dX12_rainsOn_100 rfl rfl ?_
      refine z_ishl (pc := 101) hR dX12_rainsOn_101 ?_
      refine z_ior (pc := 102) hR dX12_rainsOn_102 ?_
      refine z_puti (pc := 103) hR (j := 24) jp_RX12_344 kmo_0 (by decide) rfl rfl rfl rfl dX12_rainsOn_103 (fun M14 => ?_)
      refine z_iinc (pc := 106) hR (j := 1) (lv' := [(1, 0, (w32 (x2 + 1))), (0, 2, 0)]) dX12_rainsOn_106 rfl (by decide) rfl ?_
      refine z_goto (pc := 109) (tgt := 7) hR dX12_rainsOn_109 (by decide) ?_
      refine z_pick (pc := 7) (lv' := [(0, 2, 0), (1, 0, (w32 (x2 + 1)))]) hR [1, 0] rfl ?_
      exact hh7 ((w32 (x2 + 1)), M14)
    · refine z_goto (pc := 66) (tgt := 106) hR dX12_rainsOn_66 (by decide) ?_
      refine z_iinc (pc := 106) hR (j := 1) (lv' := [(1, 0, (w32 (x2 + 1))), (0, 2, 0)]) dX12_rainsOn_106 rfl (by decide) rfl ?_
      refine z_goto (pc := 109) (tgt := 7) hR dX12_rainsOn_109 (by decide) ?_
      refine z_pick (pc := 7) (lv' := [(0, 2, 0), (1, 0, (w32 (x2 + 1)))]) hR [1, 0] rfl ?_
      exact hh7 ((w32 (x2 + 1)), M8)
theorem dX12_bears_0 : decode cX12_bears 0 = .ok (.aload_n 0, 1) := by decide +kernel
theorem dX12_bears_1 : decode cX12_bears 1 = .ok (.getfield 39, 3) := by decide +kernel
theorem dX12_bears_4 : decode cX12_bears 4 = .ok (.bipush 39, 2) := by decide +kernel
theorem dX12_bears_6 : decode cX12_bears 6 = .ok (.iload_n 1, 1) := by decide +kernel
theorem dX12_bears_7 : decode cX12_bears 7 = .ok (.iadd, 1) := by decide +kernel
theorem dX12_bears_8 : decode cX12_bears 8 = .ok (.aload_n 0, 1) := by decide +kernel
theorem dX12_bears_9 : decode cX12_bears 9 = .ok (.getfield 39, 3) := by decide +kernel
theorem dX12_bears_12 : decode cX12_bears 12 = .ok (.bipush 39, 2) := by decide +kernel
theorem dX12_bears_14 : decode cX12_bears 14 = .ok (.iload_n 1, 1) := by decide +kernel
theorem dX12_bears_15 : decode cX12_bears 15 = .ok (.iadd, 1) := by decide +kernel
theorem dX12_bears_16 : decode cX12_bears 16 = .ok (.iaload, 1) := by decide +kernel
theorem dX12_bears_17 : decode cX12_bears 17 = .ok (.iconst 1, 1) := by decide +kernel
theorem dX12_bears_18 : decode cX12_bears 18 = .ok (.iadd, 1) := by decide +kernel
theorem dX12_bears_19 : decode cX12_bears 19 = .ok (.bipush 9, 2) := by decide +kernel
theorem dX12_bears_21 : decode cX12_bears 21 = .ok (.invokestatic 340, 3) := by decide +kernel
theorem dX12_bears_24 : decode cX12_bears 24 = .ok (.iastore, 1) := by decide +kernel
theorem dX12_bears_25 : decode cX12_bears 25 = .ok (.return_, 1) := by decide +kernel
def m_bears (N : Nat) (a1 : Int) (M : jMem) : Option (Int × jMem) := jchk (0 ≤ (w32 (39 + a1)) ∧ (w32 (39 + a1)) < 112) <| (m_lesser N ((w32 (((M 10 ((w32 (39 + a1))))) + 1))) 9 M).bind fun r2 => jchk (0 ≤ (w32 (39 + a1)) ∧ (w32 (39 + a1)) < 112) <| jlt (up M 10 ((w32 (39 + a1))) r2) fun M4 => some (0, M4)
theorem c_m_bears {l : Launch} {g : jG} (N : Nat) (a1 : Int) (M : jMem)  : ∀ o, m_bears N a1 M = some o → jCt l g jTM yX12_bears cX12_bears 2 none 3 3 [(2, 0), (0, a1)] M o := by
  refine jMet (own := RX12) (em := id) (L := [(0, 2, 0), (1, 0, a1)]) (by decide +kernel) rfl (Nat.le_of_ble_eq_true rfl) rfl (fun K hR => ?_)
  unfold m_bears
  refine z_aload_n (pc := 0) hR 0 dX12_bears_0 rfl rfl ?_
  refine z_getr (pc := 1) hR (c0 := 10) (r := 10) jf_RX12_39 kmo_0 (by decide) rfl rfl dX12_bears_1 ?_
  refine z_bipush (pc := 4) hR dX12_bears_4 rfl ?_
  refine z_iload_n (pc := 6) hR 1 dX12_bears_6 rfl rfl ?_
  refine z_iadd (pc := 7) hR dX12_bears_7 ?_
  refine z_aload_n (pc := 8) hR 0 dX12_bears_8 rfl rfl ?_
  refine z_getr (pc := 9) hR (c0 := 10) (r := 10) jf_RX12_39 kmo_0 (by decide) rfl rfl dX12_bears_9 ?_
  refine z_bipush (pc := 12) hR dX12_bears_12 rfl ?_
  refine z_iload_n (pc := 14) hR 1 dX12_bears_14 rfl rfl ?_
  refine z_iadd (pc := 15) hR dX12_bears_15 ?_
  refine z_chk (fun hc1 => ?_)
  refine z_iald (pc := 16) hR (n := 112) kma_10 hc1.1 hc1.2 dX12_bears_16 ?_
  refine z_iconst (pc := 17) hR dX12_bears_17 rfl ?_
  refine z_iadd (pc := 18) hR dX12_bears_18 ?_
  refine z_bipush (pc := 19) hR dX12_bears_19 rfl ?_
  refine z_callsp (pc := 21) hR (As := [(0, (w32 (((M 10 ((w32 (39 + a1))))) + 1))), (0, 9)]) (st := [(0, (w32 (39 + a1))), (2, 10)]) jm_X12_lesser jl_RX12_340 (by decide) (c_m_lesser N ((w32 (((M 10 ((w32 (39 + a1))))) + 1))) 9 M) rfl (by decide) (by decide) rfl (Nat.le_of_ble_eq_true rfl) dX12_bears_21 (fun r2 => ?_)
  refine z_chk (fun hc3 => ?_)
  refine z_iast (pc := 24) hR (n := 112) kma_10 hc3.1 hc3.2 dX12_bears_24 (fun M4 => ?_)
  exact z_return (x := 0) (pc := 25) hR rfl rfl dX12_bears_25 rfl
theorem dX12_passes_0 : decode cX12_passes 0 = .ok (.aload_n 0, 1) := by decide +kernel
theorem dX12_passes_1 : decode cX12_passes 1 = .ok (.invokevirtual 347, 3) := by decide +kernel
theorem dX12_passes_4 : decode cX12_passes 4 = .ok (.istore_n 1, 1) := by decide +kernel
theorem dX12_passes_5 : decode cX12_passes 5 = .ok (.iload_n 1, 1) := by decide +kernel
theorem dX12_passes_6 : decode cX12_passes 6 = .ok (.ifCond .lt 15, 3) := by decide +kernel
theorem dX12_passes_9 : decode cX12_passes 9 = .ok (.aload_n 0, 1) := by decide +kernel
theorem dX12_passes_10 : decode cX12_passes 10 = .ok (.iload_n 1, 1) := by decide +kernel
theorem dX12_passes_11 : decode cX12_passes 11 = .ok (.bipush 8, 2) := by decide +kernel
theorem dX12_passes_13 : decode cX12_passes 13 = .ok (.idiv, 1) := by decide +kernel
theorem dX12_passes_14 : decode cX12_passes 14 = .ok (.iload_n 1, 1) := by decide +kernel
theorem dX12_passes_15 : decode cX12_passes 15 = .ok (.bipush 8, 2) := by decide +kernel
theorem dX12_passes_17 : decode cX12_passes 17 = .ok (.irem, 1) := by decide +kernel
theorem dX12_passes_18 : decode cX12_passes 18 = .ok (.invokevirtual 350, 3) := by decide +kernel
theorem dX12_passes_21 : decode cX12_passes 21 = .ok (.aload_n 0, 1) := by decide +kernel
theorem dX12_passes_22 : decode cX12_passes 22 = .ok (.invokevirtual 353, 3) := by decide +kernel
theorem dX12_passes_25 : decode cX12_passes 25 = .ok (.aload_n 0, 1) := by decide +kernel
theorem dX12_passes_26 : decode cX12_passes 26 = .ok (.invokevirtual 356, 3) := by decide +kernel
theorem dX12_passes_29 : decode cX12_passes 29 = .ok (.aload_n 0, 1) := by decide +kernel
theorem dX12_passes_30 : decode cX12_passes 30 = .ok (.getfield 39, 3) := by decide +kernel
theorem dX12_passes_33 : decode cX12_passes 33 = .ok (.bipush 10, 2) := by decide +kernel
theorem dX12_passes_35 : decode cX12_passes 35 = .ok (.dup2, 1) := by decide +kernel
theorem dX12_passes_36 : decode cX12_passes 36 = .ok (.iaload, 1) := by decide +kernel
theorem dX12_passes_37 : decode cX12_passes 37 = .ok (.iconst 1, 1) := by decide +kernel
theorem dX12_passes_38 : decode cX12_passes 38 = .ok (.iadd, 1) := by decide +kernel
theorem dX12_passes_39 : decode cX12_passes 39 = .ok (.iastore, 1) := by decide +kernel
theorem dX12_passes_40 : decode cX12_passes 40 = .ok (.iconst 0, 1) := by decide +kernel
theorem dX12_passes_41 : decode cX12_passes 41 = .ok (.istore_n 2, 1) := by decide +kernel
theorem dX12_passes_42 : decode cX12_passes 42 = .ok (.iload_n 2, 1) := by decide +kernel
theorem dX12_passes_43 : decode cX12_passes 43 = .ok (.aload_n 0, 1) := by decide +kernel
theorem dX12_passes_44 : decode cX12_passes 44 = .ok (.getfield 39, 3) := by decide +kernel
theorem dX12_passes_47 : decode cX12_passes 47 = .ok (.iconst 1, 1) := by decide +kernel
theorem dX12_passes_48 : decode cX12_passes 48 = .ok (.iaload, 1) := by decide +kernel
theorem dX12_passes_49 : decode cX12_passes 49 = .ok (.if_icmp .ge 26, 3) := by decide +kernel
theorem dX12_passes_52 : decode cX12_passes 52 = .ok (.aload_n 0, 1) := by decide +kernel
theorem dX12_passes_53 : decode cX12_passes 53 = .ok (.getfield 39, 3) := by decide +kernel
theorem dX12_passes_56 : decode cX12_passes 56 = .ok (.bipush 10, 2) := by decide +kernel
theorem dX12_passes_58 : decode cX12_passes 58 = .ok (.iaload, 1) := by decide +kernel
theorem dX12_passes_59 : decode cX12_passes 59 = .ok (.iconst 5, 1) := by decide +kernel
theorem dX12_passes_60 : decode cX12_passes 60 = .ok (.irem, 1) := by decide +kernel
theorem dX12_passes_61 : decode cX12_passes 61 = .ok (.ifCond .ne 14, 3) := by decide +kernel
theorem dX12_passes_64 : decode cX12_passes 64 = .ok (.aload_n 0, 1) := by decide +kernel
theorem dX12_passes_65 : decode cX12_passes 65 = .ok (.iload_n 2, 1) := by decide +kernel
theorem dX12_passes_66 : decode cX12_passes 66 = .ok (.invokevirtual 359, 3) := by decide +kernel
theorem dX12_passes_69 : decode cX12_passes 69 = .ok (.iinc 2 1, 3) := by decide +kernel
theorem dX12_passes_72 : decode cX12_passes 72 = .ok (.goto (-30), 3) := by decide +kernel
theorem dX12_passes_75 : decode cX12_passes 75 = .ok (.iload_n 1, 1) := by decide +kernel
theorem dX12_passes_76 : decode cX12_passes 76 = .ok (.ireturn, 1) := by decide +kernel
def m_passes_L42 (N : Nat) (r1 : Int) (h42 : (Int × jMem) → Option (Int × jMem)) : Int × jMem → Option (Int × jMem)
  | (x7, M8) => (if x7 < (M8 10 1) then (if (((M8 10 10)).tmod 5) = 0 then jbv (m_bears N x7 M8) fun M9 => h42 ((w32 (x7 + 1)), M9) else some (r1, M8)) else some (r1, M8))
def m_passes (N : Nat) (M : jMem) : Option (Int × jMem) := jb1 (m_choice N M) fun r1 M2 => jlt (fun (M3 : jMem) => jbv (m_drawsAll N M3) fun M4 => jbv (m_rainsOn N M4) fun M5 => jlt (up M5 10 10 ((w32 (((M5 10 10)) + 1)))) fun M6 => jfix N (m_passes_L42 N r1) (0, M6)) fun j21 => (if r1 < 0 then j21 M2 else jbv (m_weds N ((w32 (r1.tdiv 8))) ((r1.tmod 8)) M2) fun M10 => j21 M10)
theorem c_m_passes {l : Launch} {g : jG} (N : Nat) (M : jMem)  : ∀ o, m_passes N  M = some o → jCt l g jTM yX12_passes cX12_passes 3 (some .int) 0 11 [(2, 0)] M o := by
  refine jMet (own := RX12) (em := id) (L := [(0, 2, 0)]) (by decide +kernel) rfl (Nat.le_of_ble_eq_true rfl) rfl (fun K hR => ?_)
  unfold m_passes
  refine z_aload_n (pc := 0) hR 0 dX12_passes_0 rfl rfl ?_
  refine z_callv1 (pc := 1) hR (As := []) (st := []) jm_X12_choice jl_RX12_347 kmo_0 (by decide) rfl (by decide) (c_m_choice N M) rfl (by decide) (by decide) rfl (Nat.le_of_ble_eq_true rfl) dX12_passes_1 (fun r1 M2 => ?_)
  refine z_istore_n (pc := 4) hR (lv' := [(1, 0, r1), (0, 2, 0)]) dX12_passes_4 rfl (by decide) rfl ?_
  refine z_iload_n (pc := 5) hR 0 dX12_passes_5 rfl rfl ?_
  refine z_join (P := fun j => ∀ (M3 : jMem), jZ K id 21 [(0, 2, 0), (1, 0, r1)] [] M3 (j M3)) (fun M3 => ?_) (fun j21 hj21 => ?_)
  · refine z_aload_n (pc := 21) hR 0 dX12_passes_21 rfl rfl ?_
    refine z_callv0 (pc := 22) (rk' := 3) hR (As := []) (st := []) jm_X12_drawsAll jl_RX12_353 kmo_0 (by decide) rfl (c_m_drawsAll N M3) rfl (by decide) (by decide) rfl (Nat.le_of_ble_eq_true rfl) dX12_passes_22 (fun M4 => ?_)
    refine z_aload_n (pc := 25) hR 0 dX12_passes_25 rfl rfl ?_
    refine z_callv0 (pc := 26) (rk' := 3) hR (As := []) (st := []) jm_X12_rainsOn jl_RX12_356 kmo_0 (by decide) rfl (c_m_rainsOn N M4) rfl (by decide) (by decide) rfl (Nat.le_of_ble_eq_true rfl) dX12_passes_26 (fun M5 => ?_)
    refine z_aload_n (pc := 29) hR 0 dX12_passes_29 rfl rfl ?_
    refine z_getr (pc := 30) hR (c0 := 10) (r := 10) jf_RX12_39 kmo_0 (by decide) rfl rfl dX12_passes_30 ?_
    refine z_bipush (pc := 33) hR dX12_passes_33 rfl ?_
    refine z_dup2 (pc := 35) hR dX12_passes_35 (by decide) (by decide) ?_
    refine z_iald (pc := 36) hR (n := 112) kma_10 (by decide) (by decide) dX12_passes_36 ?_
    refine z_iconst (pc := 37) hR dX12_passes_37 rfl ?_
    refine z_iadd (pc := 38) hR dX12_passes_38 ?_
    refine z_iast (pc := 39) hR (n := 112) kma_10 (by decide) (by decide) dX12_passes_39 (fun M6 => ?_)
    refine z_iconst (pc := 40) hR dX12_passes_40 rfl ?_
    refine z_istore_n (pc := 41) hR (lv' := [(2, 0, 0), (0, 2, 0), (1, 0, r1)]) dX12_passes_41 rfl (by decide) rfl ?_
    refine z_pick (pc := 42) (lv' := [(0, 2, 0), (1, 0, r1), (2, 0, 0)]) hR [1, 2, 0] rfl ?_
    refine z_fix (σ := Int × jMem) (lv := fun s => [(0, 2, 0), (1, 0, r1), (2, 0, s.1)]) (st := fun _ => []) (M := fun s => s.2) (fun h42 hh42 => ?_) N (0, M6)
    rintro ⟨x7, M8⟩
    show jZ K id 42 [(0, 2, 0), (1, 0, r1), (2, 0, x7)] [] M8 _
    unfold m_passes_L42
    refine z_iload_n (pc := 42) hR 2 dX12_passes_42 rfl rfl ?_
    refine z_aload_n (pc := 43) hR 0 dX12_passes_43 rfl rfl ?_
    refine z_getr (pc := 44) hR (c0 := 10) (r := 10) jf_RX12_39 kmo_0 (by decide) rfl rfl dX12_passes_44 ?_
    refine z_iconst (pc := 47) hR dX12_passes_47 rfl ?_
    refine z_iald (pc := 48) hR (n := 112) kma_10 (by decide) (by decide) dX12_passes_48 ?_
    refine z_icmpge (pc := 49) (tgt := 75) hR dX12_passes_49 (by decide) ?_ ?_
    · refine z_iload_n (pc := 75) hR 1 dX12_passes_75 rfl rfl ?_
      exact z_ireturn (pc := 76) hR rfl rfl dX12_passes_76 rfl
    · refine z_aload_n (pc := 52) hR 0 dX12_passes_52 rfl rfl ?_
      refine z_getr (pc := 53) hR (c0 := 10) (r := 10) jf_RX12_39 kmo_0 (by decide) rfl rfl dX12_passes_53 ?_
      refine z_bipush (pc := 56) hR dX12_passes_56 rfl ?_
      refine z_iald (pc := 58) hR (n := 112) kma_10 (by decide) (by decide) dX12_passes_58 ?_
      refine z_iconst (pc := 59) hR dX12_passes_59 rfl ?_
      refine z_irem (pc := 60) hR dX12_passes_60 (by decide) ?_
      refine z_ifne (pc := 61) (tgt := 75) hR dX12_passes_61 (by decide) ?_ ?_
      · refine z_iload_n (pc := 75) hR 1 dX12_passes_75 rfl rfl ?_
        exact z_ireturn (pc := 76) hR rfl rfl dX12_passes_76 rfl
      · refine z_aload_n (pc := 64) hR 0 dX12_passes_64 rfl rfl ?_
        refine z_iload_n (pc := 65) hR 2 dX12_passes_65 rfl rfl ?_
        refine z_callv0 (pc := 66) (rk' := 3) hR (As := [(0, x7)]) (st := []) jm_X12_bears jl_RX12_359 kmo_0 (by decide) rfl (c_m_bears N x7 M8) rfl (by decide) (by decide) rfl (Nat.le_of_ble_eq_true rfl) dX12_passes_66 (fun M9 => ?_)
        refine z_iinc (pc := 69) hR (j := 2) (lv' := [(2, 0, (w32 (x7 + 1))), (0, 2, 0), (1, 0, r1)]) dX12_passes_69 rfl (by decide) rfl ?_
        refine z_goto (pc := 72) (tgt := 42) hR dX12_passes_72 (by decide) ?_
        refine z_pick (pc := 42) (lv' := [(0, 2, 0), (1, 0, r1), (2, 0, (w32 (x7 + 1)))]) hR [1, 2, 0] rfl ?_
        exact hh42 ((w32 (x7 + 1)), M9)
  refine z_iflt (pc := 6) (tgt := 21) hR dX12_passes_6 (by decide) ?_ ?_
  · refine z_pick (pc := 21) (lv' := [(0, 2, 0), (1, 0, r1)]) hR [1, 0] rfl ?_
    exact hj21 M2
  · refine z_aload_n (pc := 9) hR 1 dX12_passes_9 rfl rfl ?_
    refine z_iload_n (pc := 10) hR 0 dX12_passes_10 rfl rfl ?_
    refine z_bipush (pc := 11) hR dX12_passes_11 rfl ?_
    refine z_idiv (pc := 13) hR dX12_passes_13 (by decide) ?_
    refine z_iload_n (pc := 14) hR 0 dX12_passes_14 rfl rfl ?_
    refine z_bipush (pc := 15) hR dX12_passes_15 rfl ?_
    refine z_irem (pc := 17) hR dX12_passes_17 (by decide) ?_
    refine z_callv0 (pc := 18) (rk' := 3) hR (As := [(0, (w32 (r1.tdiv 8))), (0, (r1.tmod 8))]) (st := []) jm_X12_weds jl_RX12_350 kmo_0 (by decide) rfl (c_m_weds N ((w32 (r1.tdiv 8))) ((r1.tmod 8)) M2) rfl (by decide) (by decide) rfl (Nat.le_of_ble_eq_true rfl) dX12_passes_18 (fun M10 => ?_)
    refine z_pick (pc := 21) (lv' := [(0, 2, 0), (1, 0, r1)]) hR [1, 0] rfl ?_
    exact hj21 M10
theorem dX12_passesAll_0 : decode cX12_passesAll 0 = .ok (.iconst 0, 1) := by decide +kernel
theorem dX12_passesAll_1 : decode cX12_passesAll 1 = .ok (.istore_n 2, 1) := by decide +kernel
theorem dX12_passesAll_2 : decode cX12_passesAll 2 = .ok (.iload_n 2, 1) := by decide +kernel
theorem dX12_passesAll_3 : decode cX12_passesAll 3 = .ok (.iload_n 1, 1) := by decide +kernel
theorem dX12_passesAll_4 : decode cX12_passesAll 4 = .ok (.if_icmp .ge 14, 3) := by decide +kernel
theorem dX12_passesAll_7 : decode cX12_passesAll 7 = .ok (.aload_n 0, 1) := by decide +kernel
theorem dX12_passesAll_8 : decode cX12_passesAll 8 = .ok (.invokevirtual 362, 3) := by decide +kernel
theorem dX12_passesAll_11 : decode cX12_passesAll 11 = .ok (.pop, 1) := by decide +kernel
theorem dX12_passesAll_12 : decode cX12_passesAll 12 = .ok (.iinc 2 1, 3) := by decide +kernel
theorem dX12_passesAll_15 : decode cX12_passesAll 15 = .ok (.goto (-13), 3) := by decide +kernel
theorem dX12_passesAll_18 : decode cX12_passesAll 18 = .ok (.return_, 1) := by decide +kernel
def m_passesAll_L2 (N : Nat) (a1 : Int) (h2 : (Int × jMem) → Option (Int × jMem)) : Int × jMem → Option (Int × jMem)
  | (x1, M2) => (if x1 < a1 then jb1 (m_passes N M2) fun r3 M4 => h2 ((w32 (x1 + 1)), M4) else some (0, M2))
def m_passesAll (N : Nat) (a1 : Int) (M : jMem) : Option (Int × jMem) := jfix N (m_passesAll_L2 N a1) (0, M)
theorem c_m_passesAll {l : Launch} {g : jG} (N : Nat) (a1 : Int) (M : jMem)  : ∀ o, m_passesAll N a1 M = some o → jCt l g jTM yX12_passesAll cX12_passesAll 3 none 3 13 [(2, 0), (0, a1)] M o := by
  refine jMet (own := RX12) (em := id) (L := [(0, 2, 0), (1, 0, a1)]) (by decide +kernel) rfl (Nat.le_of_ble_eq_true rfl) rfl (fun K hR => ?_)
  unfold m_passesAll
  refine z_iconst (pc := 0) hR dX12_passesAll_0 rfl ?_
  refine z_istore_n (pc := 1) hR (lv' := [(2, 0, 0), (0, 2, 0), (1, 0, a1)]) dX12_passesAll_1 rfl (by decide) rfl ?_
  refine z_pick (pc := 2) (lv' := [(0, 2, 0), (1, 0, a1), (2, 0, 0)]) hR [1, 2, 0] rfl ?_
  refine z_fix (σ := Int × jMem) (lv := fun s => [(0, 2, 0), (1, 0, a1), (2, 0, s.1)]) (st := fun _ => []) (M := fun s => s.2) (fun h2 hh2 => ?_) N (0, M)
  rintro ⟨x1, M2⟩
  show jZ K id 2 [(0, 2, 0), (1, 0, a1), (2, 0, x1)] [] M2 _
  unfold m_passesAll_L2
  refine z_iload_n (pc := 2) hR 2 dX12_passesAll_2 rfl rfl ?_
  refine z_iload_n (pc := 3) hR 1 dX12_passesAll_3 rfl rfl ?_
  refine z_icmpge (pc := 4) (tgt := 18) hR dX12_passesAll_4 (by decide) ?_ ?_
  · exact z_return (x := 0) (pc := 18) hR rfl rfl dX12_passesAll_18 rfl
  · refine z_aload_n (pc := 7) hR 0 dX12_passesAll_7 rfl rfl ?_
    refine z_callv1 (pc := 8) hR (As := []) (st := []) jm_X12_passes jl_RX12_362 kmo_0 (by decide) rfl (by decide) (c_m_passes N M2) rfl (by decide) (by decide) rfl (Nat.le_of_ble_eq_true rfl) dX12_passesAll_8 (fun r3 M4 => ?_)
    refine z_pop (pc := 11) hR dX12_passesAll_11 (by decide) ?_
    refine z_iinc (pc := 12) hR (j := 2) (lv' := [(2, 0, (w32 (x1 + 1))), (0, 2, 0), (1, 0, a1)]) dX12_passesAll_12 rfl (by decide) rfl ?_
    refine z_goto (pc := 15) (tgt := 2) hR dX12_passesAll_15 (by decide) ?_
    refine z_pick (pc := 2) (lv' := [(0, 2, 0), (1, 0, a1), (2, 0, (w32 (x1 + 1)))]) hR [1, 2, 0] rfl ?_
    exact hh2 ((w32 (x1 + 1)), M4)
theorem dX12_keepsAct_0 : decode cX12_keepsAct 0 = .ok (.aload_n 0, 1) := by decide +kernel
theorem dX12_keepsAct_1 : decode cX12_keepsAct 1 = .ok (.getfield 277, 3) := by decide +kernel
theorem dX12_keepsAct_4 : decode cX12_keepsAct 4 = .ok (.bipush 20, 2) := by decide +kernel
theorem dX12_keepsAct_6 : decode cX12_keepsAct 6 = .ok (.if_icmp .ne 44, 3) := by decide +kernel
theorem dX12_keepsAct_9 : decode cX12_keepsAct 9 = .ok (.bipush 36, 2) := by decide +kernel
theorem dX12_keepsAct_11 : decode cX12_keepsAct 11 = .ok (.istore_n 1, 1) := by decide +kernel
theorem dX12_keepsAct_12 : decode cX12_keepsAct 12 = .ok (.iload_n 1, 1) := by decide +kernel
theorem dX12_keepsAct_13 : decode cX12_keepsAct 13 = .ok (.sipush 720, 3) := by decide +kernel
theorem dX12_keepsAct_16 : decode cX12_keepsAct 16 = .ok (.if_icmp .ge 24, 3) := by decide +kernel
theorem dX12_keepsAct_19 : decode cX12_keepsAct 19 = .ok (.aload_n 0, 1) := by decide +kernel
theorem dX12_keepsAct_20 : decode cX12_keepsAct 20 = .ok (.getfield 49, 3) := by decide +kernel
theorem dX12_keepsAct_23 : decode cX12_keepsAct 23 = .ok (.iload_n 1, 1) := by decide +kernel
theorem dX12_keepsAct_24 : decode cX12_keepsAct 24 = .ok (.bipush 36, 2) := by decide +kernel
theorem dX12_keepsAct_26 : decode cX12_keepsAct 26 = .ok (.isub, 1) := by decide +kernel
theorem dX12_keepsAct_27 : decode cX12_keepsAct 27 = .ok (.aload_n 0, 1) := by decide +kernel
theorem dX12_keepsAct_28 : decode cX12_keepsAct 28 = .ok (.getfield 49, 3) := by decide +kernel
theorem dX12_keepsAct_31 : decode cX12_keepsAct 31 = .ok (.iload_n 1, 1) := by decide +kernel
theorem dX12_keepsAct_32 : decode cX12_keepsAct 32 = .ok (.iaload, 1) := by decide +kernel
theorem dX12_keepsAct_33 : decode cX12_keepsAct 33 = .ok (.iastore, 1) := by decide +kernel
theorem dX12_keepsAct_34 : decode cX12_keepsAct 34 = .ok (.iinc 1 1, 3) := by decide +kernel
theorem dX12_keepsAct_37 : decode cX12_keepsAct 37 = .ok (.goto (-25), 3) := by decide +kernel
theorem dX12_keepsAct_40 : decode cX12_keepsAct 40 = .ok (.aload_n 0, 1) := by decide +kernel
theorem dX12_keepsAct_41 : decode cX12_keepsAct 41 = .ok (.dup, 1) := by decide +kernel
theorem dX12_keepsAct_42 : decode cX12_keepsAct 42 = .ok (.getfield 277, 3) := by decide +kernel
theorem dX12_keepsAct_45 : decode cX12_keepsAct 45 = .ok (.iconst 1, 1) := by decide +kernel
theorem dX12_keepsAct_46 : decode cX12_keepsAct 46 = .ok (.isub, 1) := by decide +kernel
theorem dX12_keepsAct_47 : decode cX12_keepsAct 47 = .ok (.putfield 277, 3) := by decide +kernel
theorem dX12_keepsAct_50 : decode cX12_keepsAct 50 = .ok (.iconst 0, 1) := by decide +kernel
theorem dX12_keepsAct_51 : decode cX12_keepsAct 51 = .ok (.istore_n 1, 1) := by decide +kernel
theorem dX12_keepsAct_52 : decode cX12_keepsAct 52 = .ok (.iload_n 1, 1) := by decide +kernel
theorem dX12_keepsAct_53 : decode cX12_keepsAct 53 = .ok (.bipush 36, 2) := by decide +kernel
theorem dX12_keepsAct_55 : decode cX12_keepsAct 55 = .ok (.if_icmp .ge 32, 3) := by decide +kernel
theorem dX12_keepsAct_58 : decode cX12_keepsAct 58 = .ok (.aload_n 0, 1) := by decide +kernel
theorem dX12_keepsAct_59 : decode cX12_keepsAct 59 = .ok (.getfield 49, 3) := by decide +kernel
theorem dX12_keepsAct_62 : decode cX12_keepsAct 62 = .ok (.bipush 36, 2) := by decide +kernel
theorem dX12_keepsAct_64 : decode cX12_keepsAct 64 = .ok (.aload_n 0, 1) := by decide +kernel
theorem dX12_keepsAct_65 : decode cX12_keepsAct 65 = .ok (.getfield 277, 3) := by decide +kernel
theorem dX12_keepsAct_68 : decode cX12_keepsAct 68 = .ok (.imul, 1) := by decide +kernel
theorem dX12_keepsAct_69 : decode cX12_keepsAct 69 = .ok (.iload_n 1, 1) := by decide +kernel
theorem dX12_keepsAct_70 : decode cX12_keepsAct 70 = .ok (.iadd, 1) := by decide +kernel
theorem dX12_keepsAct_71 : decode cX12_keepsAct 71 = .ok (.aload_n 0, 1) := by decide +kernel
theorem dX12_keepsAct_72 : decode cX12_keepsAct 72 = .ok (.getfield 39, 3) := by decide +kernel
theorem dX12_keepsAct_75 : decode cX12_keepsAct 75 = .ok (.bipush 10, 2) := by decide +kernel
theorem dX12_keepsAct_77 : decode cX12_keepsAct 77 = .ok (.iload_n 1, 1) := by decide +kernel
theorem dX12_keepsAct_78 : decode cX12_keepsAct 78 = .ok (.iadd, 1) := by decide +kernel
theorem dX12_keepsAct_79 : decode cX12_keepsAct 79 = .ok (.iaload, 1) := by decide +kernel
theorem dX12_keepsAct_80 : decode cX12_keepsAct 80 = .ok (.iastore, 1) := by decide +kernel
theorem dX12_keepsAct_81 : decode cX12_keepsAct 81 = .ok (.iinc 1 1, 3) := by decide +kernel
theorem dX12_keepsAct_84 : decode cX12_keepsAct 84 = .ok (.goto (-32), 3) := by decide +kernel
theorem dX12_keepsAct_87 : decode cX12_keepsAct 87 = .ok (.aload_n 0, 1) := by decide +kernel
theorem dX12_keepsAct_88 : decode cX12_keepsAct 88 = .ok (.dup, 1) := by decide +kernel
theorem dX12_keepsAct_89 : decode cX12_keepsAct 89 = .ok (.getfield 277, 3) := by decide +kernel
theorem dX12_keepsAct_92 : decode cX12_keepsAct 92 = .ok (.iconst 1, 1) := by decide +kernel
theorem dX12_keepsAct_93 : decode cX12_keepsAct 93 = .ok (.iadd, 1) := by decide +kernel
theorem dX12_keepsAct_94 : decode cX12_keepsAct 94 = .ok (.putfield 277, 3) := by decide +kernel
theorem dX12_keepsAct_97 : decode cX12_keepsAct 97 = .ok (.return_, 1) := by decide +kernel
def m_keepsAct_L52 (N : Nat)  (h52 : (Int × jMem) → Option (Int × jMem)) : Int × jMem → Option (Int × jMem)
  | (x2, M3) => (if x2 < 36 then jchk (0 ≤ (w32 (10 + x2)) ∧ (w32 (10 + x2)) < 112) <| jchk (0 ≤ (w32 (((w32 (36 * ((M3 0 26))))) + x2)) ∧ (w32 (((w32 (36 * ((M3 0 26))))) + x2)) < 720) <| jlt (up M3 12 ((w32 (((w32 (36 * ((M3 0 26))))) + x2))) ((M3 10 ((w32 (10 + x2)))))) fun M7 => h52 ((w32 (x2 + 1)), M7) else jlt (up M3 0 26 ((w32 (((M3 0 26)) + 1)))) fun M4 => some (0, M4))
def m_keepsAct_L12 (N : Nat) (j50 : jMem → Option (Int × jMem)) (h12 : (Int × jMem) → Option (Int × jMem)) : Int × jMem → Option (Int × jMem)
  | (x8, M9) => (if x8 < 720 then jchk (0 ≤ x8 ∧ x8 < 720) <| jchk (0 ≤ (w32 (x8 - 36)) ∧ (w32 (x8 - 36)) < 720) <| jlt (up M9 12 ((w32 (x8 - 36))) ((M9 12 x8))) fun M13 => h12 ((w32 (x8 + 1)), M13) else jlt (up M9 0 26 ((w32 (((M9 0 26)) - 1)))) fun M10 => j50 M10)
def m_keepsAct (N : Nat) (M : jMem) : Option (Int × jMem) := jlt (fun (M1 : jMem) => jfix N (m_keepsAct_L52 N) (0, M1)) fun j50 => (if (M 0 26) = 20 then jfix N (m_keepsAct_L12 N j50) (36, M) else j50 M)
theorem c_m_keepsAct {l : Launch} {g : jG} (N : Nat) (M : jMem)  : ∀ o, m_keepsAct N  M = some o → jCt l g jTM yX12_keepsAct cX12_keepsAct 2 none 3 1 [(2, 0)] M o := by
  refine jMet (own := RX12) (em := id) (L := [(0, 2, 0)]) (by decide +kernel) rfl (Nat.le_of_ble_eq_true rfl) rfl (fun K hR => ?_)
  unfold m_keepsAct
  refine z_aload_n (pc := 0) hR 0 dX12_keepsAct_0 rfl rfl ?_
  refine z_geti (pc := 1) hR (j := 26) jf_RX12_277 kmo_0 (by decide) rfl rfl dX12_keepsAct_1 ?_
  refine z_bipush (pc := 4) hR dX12_keepsAct_4 rfl ?_
  refine z_join (P := fun j => ∀ (M1 : jMem), jZ K id 50 [(0, 2, 0)] [] M1 (j M1)) (fun M1 => ?_) (fun j50 hj50 => ?_)
  · refine z_iconst (pc := 50) hR dX12_keepsAct_50 rfl ?_
    refine z_istore_n (pc := 51) hR (lv' := [(1, 0, 0), (0, 2, 0)]) dX12_keepsAct_51 rfl (by decide) rfl ?_
    refine z_pick (pc := 52) (lv' := [(0, 2, 0), (1, 0, 0)]) hR [1, 0] rfl ?_
    refine z_fix (σ := Int × jMem) (lv := fun s => [(0, 2, 0), (1, 0, s.1)]) (st := fun _ => []) (M := fun s => s.2) (fun h52 hh52 => ?_) N (0, M1)
    rintro ⟨x2, M3⟩
    show jZ K id 52 [(0, 2, 0), (1, 0, x2)] [] M3 _
    unfold m_keepsAct_L52
    refine z_iload_n (pc := 52) hR 1 dX12_keepsAct_52 rfl rfl ?_
    refine z_bipush (pc := 53) hR dX12_keepsAct_53 rfl ?_
    refine z_icmpge (pc := 55) (tgt := 87) hR dX12_keepsAct_55 (by decide) ?_ ?_
    · refine z_aload_n (pc := 87) hR 0 dX12_keepsAct_87 rfl rfl ?_
      refine z_dup (pc := 88) hR dX12_keepsAct_88 (by decide) ?_
      refine z_geti (pc := 89) hR (j := 26) jf_RX12_277 kmo_0 (by decide) rfl rfl dX12_keepsAct_89 ?_
      refine z_iconst (pc := 92) hR dX12_keepsAct_92 rfl ?_
      refine z_iadd (pc := 93) hR dX12_keepsAct_93 ?_
      refine z_puti (pc := 94) hR (j := 26) jp_RX12_277 kmo_0 (by decide) rfl rfl rfl rfl dX12_keepsAct_94 (fun M4 => ?_)
      exact z_return (x := 0) (pc := 97) hR rfl rfl dX12_keepsAct_97 rfl
    · refine z_aload_n (pc := 58) hR 0 dX12_keepsAct_58 rfl rfl ?_
      refine z_getr (pc := 59) hR (c0 := 12) (r := 12) jf_RX12_49 kmo_0 (by decide) rfl rfl dX12_keepsAct_59 ?_
      refine z_bipush (pc := 62) hR dX12_keepsAct_62 rfl ?_
      refine z_aload_n (pc := 64) hR 0 dX12_keepsAct_64 rfl rfl ?_
      refine z_geti (pc := 65) hR (j := 26) jf_RX12_277 kmo_0 (by decide) rfl rfl dX12_keepsAct_65 ?_
      refine z_imul (pc := 68) hR dX12_keepsAct_68 ?_
      refine z_iload_n (pc := 69) hR 1 dX12_keepsAct_69 rfl rfl ?_
      refine z_iadd (pc := 70) hR dX12_keepsAct_70 ?_
      refine z_aload_n (pc := 71) hR 0 dX12_keepsAct_71 rfl rfl ?_
      refine z_getr (pc := 72) hR (c0 := 10) (r := 10) jf_RX12_39 kmo_0 (by decide) rfl rfl dX12_keepsAct_72 ?_
      refine z_bipush (pc := 75) hR dX12_keepsAct_75 rfl ?_
      refine z_iload_n (pc := 77) hR 1 dX12_keepsAct_77 rfl rfl ?_
      refine z_iadd (pc := 78) hR dX12_keepsAct_78 ?_
      refine z_chk (fun hc5 => ?_)
      refine z_iald (pc := 79) hR (n := 112) kma_10 hc5.1 hc5.2 dX12_keepsAct_79 ?_
      refine z_chk (fun hc6 => ?_)
      refine z_iast (pc := 80) hR (n := 720) kma_12 hc6.1 hc6.2 dX12_keepsAct_80 (fun M7 => ?_)
      refine z_iinc (pc := 81) hR (j := 1) (lv' := [(1, 0, (w32 (x2 + 1))), (0, 2, 0)]) dX12_keepsAct_81 rfl (by decide) rfl ?_
      refine z_goto (pc := 84) (tgt := 52) hR dX12_keepsAct_84 (by decide) ?_
      refine z_pick (pc := 52) (lv' := [(0, 2, 0), (1, 0, (w32 (x2 + 1)))]) hR [1, 0] rfl ?_
      exact hh52 ((w32 (x2 + 1)), M7)
  refine z_icmpne (pc := 6) (tgt := 50) hR dX12_keepsAct_6 (by decide) ?_ ?_
  · exact hj50 M
  · refine z_bipush (pc := 9) hR dX12_keepsAct_9 rfl ?_
    refine z_istore_n (pc := 11) hR (lv' := [(1, 0, 36), (0, 2, 0)]) dX12_keepsAct_11 rfl (by decide) rfl ?_
    refine z_pick (pc := 12) (lv' := [(0, 2, 0), (1, 0, 36)]) hR [1, 0] rfl ?_
    refine z_fix (σ := Int × jMem) (lv := fun s => [(0, 2, 0), (1, 0, s.1)]) (st := fun _ => []) (M := fun s => s.2) (fun h12 hh12 => ?_) N (36, M)
    rintro ⟨x8, M9⟩
    show jZ K id 12 [(0, 2, 0), (1, 0, x8)] [] M9 _
    unfold m_keepsAct_L12
    refine z_iload_n (pc := 12) hR 1 dX12_keepsAct_12 rfl rfl ?_
    refine z_sipush (pc := 13) hR dX12_keepsAct_13 rfl ?_
    refine z_icmpge (pc := 16) (tgt := 40) hR dX12_keepsAct_16 (by decide) ?_ ?_
    · refine z_aload_n (pc := 40) hR 0 dX12_keepsAct_40 rfl rfl ?_
      refine z_dup (pc := 41) hR dX12_keepsAct_41 (by decide) ?_
      refine z_geti (pc := 42) hR (j := 26) jf_RX12_277 kmo_0 (by decide) rfl rfl dX12_keepsAct_42 ?_
      refine z_iconst (pc := 45) hR dX12_keepsAct_45 rfl ?_
      refine z_isub (pc := 46) hR dX12_keepsAct_46 ?_
      refine z_puti (pc := 47) hR (j := 26) jp_RX12_277 kmo_0 (by decide) rfl rfl rfl rfl dX12_keepsAct_47 (fun M10 => ?_)
      refine z_pick (pc := 50) (lv' := [(0, 2, 0)]) hR [0] rfl ?_
      exact hj50 M10
    · refine z_aload_n (pc := 19) hR 0 dX12_keepsAct_19 rfl rfl ?_
      refine z_getr (pc := 20) hR (c0 := 12) (r := 12) jf_RX12_49 kmo_0 (by decide) rfl rfl dX12_keepsAct_20 ?_
      refine z_iload_n (pc := 23) hR 1 dX12_keepsAct_23 rfl rfl ?_
      refine z_bipush (pc := 24) hR dX12_keepsAct_24 rfl ?_
      refine z_isub (pc := 26) hR dX12_keepsAct_26 ?_
      refine z_aload_n (pc := 27) hR 0 dX12_keepsAct_27 rfl rfl ?_
      refine z_getr (pc := 28) hR (c0 := 12) (r := 12) jf_RX12_49 kmo_0 (by decide) rfl rfl dX12_keepsAct_28 ?_
      refine z_iload_n (pc := 31) hR 1 dX12_keepsAct_31 rfl rfl ?_
      refine z_chk (fun hc11 => ?_)
      refine z_iald (pc := 32) hR (n := 720) kma_12 hc11.1 hc11.2 dX12_keepsAct_32 ?_
      refine z_chk (fun hc12 => ?_)
      refine z_iast (pc := 33) hR (n := 720) kma_12 hc12.1 hc12.2 dX12_keepsAct_33 (fun M13 => ?_)
      refine z_iinc (pc := 34) hR (j := 1) (lv' := [(1, 0, (w32 (x8 + 1))), (0, 2, 0)]) dX12_keepsAct_34 rfl (by decide) rfl ?_
      refine z_goto (pc := 37) (tgt := 12) hR dX12_keepsAct_37 (by decide) ?_
      refine z_pick (pc := 12) (lv' := [(0, 2, 0), (1, 0, (w32 (x8 + 1)))]) hR [1, 0] rfl ?_
      exact hh12 ((w32 (x8 + 1)), M13)
theorem dX12_undo_0 : decode cX12_undo 0 = .ok (.aload_n 0, 1) := by decide +kernel
theorem dX12_undo_1 : decode cX12_undo 1 = .ok (.getfield 277, 3) := by decide +kernel
theorem dX12_undo_4 : decode cX12_undo 4 = .ok (.ifCond .ne 5, 3) := by decide +kernel
theorem dX12_undo_7 : decode cX12_undo 7 = .ok (.iconst (-1), 1) := by decide +kernel
theorem dX12_undo_8 : decode cX12_undo 8 = .ok (.ireturn, 1) := by decide +kernel
theorem dX12_undo_9 : decode cX12_undo 9 = .ok (.aload_n 0, 1) := by decide +kernel
theorem dX12_undo_10 : decode cX12_undo 10 = .ok (.dup, 1) := by decide +kernel
theorem dX12_undo_11 : decode cX12_undo 11 = .ok (.getfield 277, 3) := by decide +kernel
theorem dX12_undo_14 : decode cX12_undo 14 = .ok (.iconst 1, 1) := by decide +kernel
theorem dX12_undo_15 : decode cX12_undo 15 = .ok (.isub, 1) := by decide +kernel
theorem dX12_undo_16 : decode cX12_undo 16 = .ok (.putfield 277, 3) := by decide +kernel
theorem dX12_undo_19 : decode cX12_undo 19 = .ok (.iconst 0, 1) := by decide +kernel
theorem dX12_undo_20 : decode cX12_undo 20 = .ok (.istore_n 1, 1) := by decide +kernel
theorem dX12_undo_21 : decode cX12_undo 21 = .ok (.iload_n 1, 1) := by decide +kernel
theorem dX12_undo_22 : decode cX12_undo 22 = .ok (.bipush 36, 2) := by decide +kernel
theorem dX12_undo_24 : decode cX12_undo 24 = .ok (.if_icmp .ge 32, 3) := by decide +kernel
theorem dX12_undo_27 : decode cX12_undo 27 = .ok (.aload_n 0, 1) := by decide +kernel
theorem dX12_undo_28 : decode cX12_undo 28 = .ok (.getfield 39, 3) := by decide +kernel
theorem dX12_undo_31 : decode cX12_undo 31 = .ok (.bipush 10, 2) := by decide +kernel
theorem dX12_undo_33 : decode cX12_undo 33 = .ok (.iload_n 1, 1) := by decide +kernel
theorem dX12_undo_34 : decode cX12_undo 34 = .ok (.iadd, 1) := by decide +kernel
theorem dX12_undo_35 : decode cX12_undo 35 = .ok (.aload_n 0, 1) := by decide +kernel
theorem dX12_undo_36 : decode cX12_undo 36 = .ok (.getfield 49, 3) := by decide +kernel
theorem dX12_undo_39 : decode cX12_undo 39 = .ok (.bipush 36, 2) := by decide +kernel
theorem dX12_undo_41 : decode cX12_undo 41 = .ok (.aload_n 0, 1) := by decide +kernel
theorem dX12_undo_42 : decode cX12_undo 42 = .ok (.getfield 277, 3) := by decide +kernel
theorem dX12_undo_45 : decode cX12_undo 45 = .ok (.imul, 1) := by decide +kernel
theorem dX12_undo_46 : decode cX12_undo 46 = .ok (.iload_n 1, 1) := by decide +kernel
theorem dX12_undo_47 : decode cX12_undo 47 = .ok (.iadd, 1) := by decide +kernel
theorem dX12_undo_48 : decode cX12_undo 48 = .ok (.iaload, 1) := by decide +kernel
theorem dX12_undo_49 : decode cX12_undo 49 = .ok (.iastore, 1) := by decide +kernel
theorem dX12_undo_50 : decode cX12_undo 50 = .ok (.iinc 1 1, 3) := by decide +kernel
theorem dX12_undo_53 : decode cX12_undo 53 = .ok (.goto (-32), 3) := by decide +kernel
theorem dX12_undo_56 : decode cX12_undo 56 = .ok (.aload_n 0, 1) := by decide +kernel
theorem dX12_undo_57 : decode cX12_undo 57 = .ok (.getfield 277, 3) := by decide +kernel
theorem dX12_undo_60 : decode cX12_undo 60 = .ok (.ireturn, 1) := by decide +kernel
def m_undo_L21 (N : Nat)  (h21 : (Int × jMem) → Option (Int × jMem)) : Int × jMem → Option (Int × jMem)
  | (x2, M3) => (if x2 < 36 then jchk (0 ≤ (w32 (((w32 (36 * ((M3 0 26))))) + x2)) ∧ (w32 (((w32 (36 * ((M3 0 26))))) + x2)) < 720) <| jchk (0 ≤ (w32 (10 + x2)) ∧ (w32 (10 + x2)) < 112) <| jlt (up M3 10 ((w32 (10 + x2))) ((M3 12 ((w32 (((w32 (36 * ((M3 0 26))))) + x2)))))) fun M6 => h21 ((w32 (x2 + 1)), M6) else some ((M3 0 26), M3))
def m_undo (N : Nat) (M : jMem) : Option (Int × jMem) := (if (M 0 26) = 0 then some ((-1), M) else jlt (up M 0 26 ((w32 (((M 0 26)) - 1)))) fun M1 => jfix N (m_undo_L21 N) (0, M1))
theorem c_m_undo {l : Launch} {g : jG} (N : Nat) (M : jMem)  : ∀ o, m_undo N  M = some o → jCt l g jTM yX12_undo cX12_undo 2 (some .int) 0 1 [(2, 0)] M o := by
  refine jMet (own := RX12) (em := id) (L := [(0, 2, 0)]) (by decide +kernel) rfl (Nat.le_of_ble_eq_true rfl) rfl (fun K hR => ?_)
  unfold m_undo
  refine z_aload_n (pc := 0) hR 0 dX12_undo_0 rfl rfl ?_
  refine z_geti (pc := 1) hR (j := 26) jf_RX12_277 kmo_0 (by decide) rfl rfl dX12_undo_1 ?_
  refine z_ifne (pc := 4) (tgt := 9) hR dX12_undo_4 (by decide) ?_ ?_
  · refine z_aload_n (pc := 9) hR 0 dX12_undo_9 rfl rfl ?_
    refine z_dup (pc := 10) hR dX12_undo_10 (by decide) ?_
    refine z_geti (pc := 11) hR (j := 26) jf_RX12_277 kmo_0 (by decide) rfl rfl dX12_undo_11 ?_
    refine z_iconst (pc := 14) hR dX12_undo_14 rfl ?_
    refine z_isub (pc := 15) hR dX12_undo_15 ?_
    refine z_puti (pc := 16) hR (j := 26) jp_RX12_277 kmo_0 (by decide) rfl rfl rfl rfl dX12_undo_16 (fun M1 => ?_)
    refine z_iconst (pc := 19) hR dX12_undo_19 rfl ?_
    refine z_istore_n (pc := 20) hR (lv' := [(1, 0, 0), (0, 2, 0)]) dX12_undo_20 rfl (by decide) rfl ?_
    refine z_pick (pc := 21) (lv' := [(0, 2, 0), (1, 0, 0)]) hR [1, 0] rfl ?_
    refine z_fix (σ := Int × jMem) (lv := fun s => [(0, 2, 0), (1, 0, s.1)]) (st := fun _ => []) (M := fun s => s.2) (fun h21 hh21 => ?_) N (0, M1)
    rintro ⟨x2, M3⟩
    show jZ K id 21 [(0, 2, 0), (1, 0, x2)] [] M3 _
    unfold m_undo_L21
    refine z_iload_n (pc := 21) hR 1 dX12_undo_21 rfl rfl ?_
    refine z_bipush (pc := 22) hR dX12_undo_22 rfl ?_
    refine z_icmpge (pc := 24) (tgt := 56) hR dX12_undo_24 (by decide) ?_ ?_
    · refine z_aload_n (pc := 56) hR 0 dX12_undo_56 rfl rfl ?_
      refine z_geti (pc := 57) hR (j := 26) jf_RX12_277 kmo_0 (by decide) rfl rfl dX12_undo_57 ?_
      exact z_ireturn (pc := 60) hR rfl rfl dX12_undo_60 rfl
    · refine z_aload_n (pc := 27) hR 0 dX12_undo_27 rfl rfl ?_
      refine z_getr (pc := 28) hR (c0 := 10) (r := 10) jf_RX12_39 kmo_0 (by decide) rfl rfl dX12_undo_28 ?_
      refine z_bipush (pc := 31) hR dX12_undo_31 rfl ?_
      refine z_iload_n (pc := 33) hR 1 dX12_undo_33 rfl rfl ?_
      refine z_iadd (pc := 34) hR dX12_undo_34 ?_
      refine z_aload_n (pc := 35) hR 0 dX12_undo_35 rfl rfl ?_
      refine z_getr (pc := 36) hR (c0 := 12) (r := 12) jf_RX12_49 kmo_0 (by decide) rfl rfl dX12_undo_36 ?_
      refine z_bipush (pc := 39) hR dX12_undo_39 rfl ?_
      refine z_aload_n (pc := 41) hR 0 dX12_undo_41 rfl rfl ?_
      refine z_geti (pc := 42) hR (j := 26) jf_RX12_277 kmo_0 (by decide) rfl rfl dX12_undo_42 ?_
      refine z_imul (pc := 45) hR dX12_undo_45 ?_
      refine z_iload_n (pc := 46) hR 1 dX12_undo_46 rfl rfl ?_
      refine z_iadd (pc := 47) hR dX12_undo_47 ?_
      refine z_chk (fun hc4 => ?_)
      refine z_iald (pc := 48) hR (n := 720) kma_12 hc4.1 hc4.2 dX12_undo_48 ?_
      refine z_chk (fun hc5 => ?_)
      refine z_iast (pc := 49) hR (n := 112) kma_10 hc5.1 hc5.2 dX12_undo_49 (fun M6 => ?_)
      refine z_iinc (pc := 50) hR (j := 1) (lv' := [(1, 0, (w32 (x2 + 1))), (0, 2, 0)]) dX12_undo_50 rfl (by decide) rfl ?_
      refine z_goto (pc := 53) (tgt := 21) hR dX12_undo_53 (by decide) ?_
      refine z_pick (pc := 21) (lv' := [(0, 2, 0), (1, 0, (w32 (x2 + 1)))]) hR [1, 0] rfl ?_
      exact hh21 ((w32 (x2 + 1)), M6)
  · refine z_iconst (pc := 7) hR dX12_undo_7 rfl ?_
    exact z_ireturn (pc := 8) hR rfl rfl dX12_undo_8 rfl
theorem dX12_year_0 : decode cX12_year 0 = .ok (.aload_n 0, 1) := by decide +kernel
theorem dX12_year_1 : decode cX12_year 1 = .ok (.invokevirtual 313, 3) := by decide +kernel
theorem dX12_year_4 : decode cX12_year 4 = .ok (.ifCond .eq 16, 3) := by decide +kernel
theorem dX12_year_7 : decode cX12_year 7 = .ok (.aload_n 0, 1) := by decide +kernel
theorem dX12_year_8 : decode cX12_year 8 = .ok (.getfield 39, 3) := by decide +kernel
theorem dX12_year_11 : decode cX12_year 11 = .ok (.bipush 10, 2) := by decide +kernel
theorem dX12_year_13 : decode cX12_year 13 = .ok (.iaload, 1) := by decide +kernel
theorem dX12_year_14 : decode cX12_year 14 = .ok (.sipush 999, 3) := by decide +kernel
theorem dX12_year_17 : decode cX12_year 17 = .ok (.if_icmp .ne 5, 3) := by decide +kernel
theorem dX12_year_20 : decode cX12_year 20 = .ok (.iconst (-1), 1) := by decide +kernel
theorem dX12_year_21 : decode cX12_year 21 = .ok (.ireturn, 1) := by decide +kernel
theorem dX12_year_22 : decode cX12_year 22 = .ok (.aload_n 0, 1) := by decide +kernel
theorem dX12_year_23 : decode cX12_year 23 = .ok (.invokevirtual 365, 3) := by decide +kernel
theorem dX12_year_26 : decode cX12_year 26 = .ok (.aload_n 0, 1) := by decide +kernel
theorem dX12_year_27 : decode cX12_year 27 = .ok (.invokevirtual 362, 3) := by decide +kernel
theorem dX12_year_30 : decode cX12_year 30 = .ok (.istore_n 1, 1) := by decide +kernel
theorem dX12_year_31 : decode cX12_year 31 = .ok (.iload_n 1, 1) := by decide +kernel
theorem dX12_year_32 : decode cX12_year 32 = .ok (.ifCond .ge 8, 3) := by decide +kernel
theorem dX12_year_35 : decode cX12_year 35 = .ok (.bipush (-2), 2) := by decide +kernel
theorem dX12_year_37 : decode cX12_year 37 = .ok (.goto 4, 3) := by decide +kernel
theorem dX12_year_40 : decode cX12_year 40 = .ok (.iload_n 1, 1) := by decide +kernel
theorem dX12_year_41 : decode cX12_year 41 = .ok (.ireturn, 1) := by decide +kernel
def m_year (N : Nat) (M : jMem) : Option (Int × jMem) := (m_isParish N M).bind fun r1 => (if r1 = 0 then some ((-1), M) else (if (M 10 10) = 999 then some ((-1), M) else jbv (m_keepsAct N M) fun M2 => jb1 (m_passes N M2) fun r3 M4 => (if r3 < 0 then some ((-2), M4) else some (r3, M4))))
theorem c_m_year {l : Launch} {g : jG} (N : Nat) (M : jMem)  : ∀ o, m_year N  M = some o → jCt l g jTM yX12_year cX12_year 2 (some .int) 0 13 [(2, 0)] M o := by
  refine jMet (own := RX12) (em := id) (L := [(0, 2, 0)]) (by decide +kernel) rfl (Nat.le_of_ble_eq_true rfl) rfl (fun K hR => ?_)
  unfold m_year
  refine z_aload_n (pc := 0) hR 0 dX12_year_0 rfl rfl ?_
  refine z_callvp (pc := 1) hR (As := []) (st := []) jm_X12_isParish jl_RX12_313 kmo_0 (by decide) rfl (by decide) (c_m_isParish N M) rfl (by decide) (by decide) rfl (Nat.le_of_ble_eq_true rfl) dX12_year_1 (fun r1 => ?_)
  refine z_ifeq (pc := 4) (tgt := 20) hR dX12_year_4 (by decide) ?_ ?_
  · refine z_iconst (pc := 20) hR dX12_year_20 rfl ?_
    exact z_ireturn (pc := 21) hR rfl rfl dX12_year_21 rfl
  · refine z_aload_n (pc := 7) hR 0 dX12_year_7 rfl rfl ?_
    refine z_getr (pc := 8) hR (c0 := 10) (r := 10) jf_RX12_39 kmo_0 (by decide) rfl rfl dX12_year_8 ?_
    refine z_bipush (pc := 11) hR dX12_year_11 rfl ?_
    refine z_iald (pc := 13) hR (n := 112) kma_10 (by decide) (by decide) dX12_year_13 ?_
    refine z_sipush (pc := 14) hR dX12_year_14 rfl ?_
    refine z_icmpne (pc := 17) (tgt := 22) hR dX12_year_17 (by decide) ?_ ?_
    · refine z_aload_n (pc := 22) hR 0 dX12_year_22 rfl rfl ?_
      refine z_callv0 (pc := 23) (rk' := 3) hR (As := []) (st := []) jm_X12_keepsAct jl_RX12_365 kmo_0 (by decide) rfl (c_m_keepsAct N M) rfl (by decide) (by decide) rfl (Nat.le_of_ble_eq_true rfl) dX12_year_23 (fun M2 => ?_)
      refine z_aload_n (pc := 26) hR 0 dX12_year_26 rfl rfl ?_
      refine z_callv1 (pc := 27) hR (As := []) (st := []) jm_X12_passes jl_RX12_362 kmo_0 (by decide) rfl (by decide) (c_m_passes N M2) rfl (by decide) (by decide) rfl (Nat.le_of_ble_eq_true rfl) dX12_year_27 (fun r3 M4 => ?_)
      refine z_istore_n (pc := 30) hR (lv' := [(1, 0, r3), (0, 2, 0)]) dX12_year_30 rfl (by decide) rfl ?_
      refine z_iload_n (pc := 31) hR 0 dX12_year_31 rfl rfl ?_
      refine z_ifge (pc := 32) (tgt := 40) hR dX12_year_32 (by decide) ?_ ?_
      · refine z_iload_n (pc := 40) hR 0 dX12_year_40 rfl rfl ?_
        exact z_ireturn (pc := 41) hR rfl rfl dX12_year_41 rfl
      · refine z_bipush (pc := 35) hR dX12_year_35 rfl ?_
        refine z_goto (pc := 37) (tgt := 41) hR dX12_year_37 (by decide) ?_
        exact z_ireturn (pc := 41) hR rfl rfl dX12_year_41 rfl
    · refine z_iconst (pc := 20) hR dX12_year_20 rfl ?_
      exact z_ireturn (pc := 21) hR rfl rfl dX12_year_21 rfl
theorem dX12_wed_0 : decode cX12_wed 0 = .ok (.aload_n 0, 1) := by decide +kernel
theorem dX12_wed_1 : decode cX12_wed 1 = .ok (.iload_n 1, 1) := by decide +kernel
theorem dX12_wed_2 : decode cX12_wed 2 = .ok (.iload_n 2, 1) := by decide +kernel
theorem dX12_wed_3 : decode cX12_wed 3 = .ok (.invokevirtual 304, 3) := by decide +kernel
theorem dX12_wed_6 : decode cX12_wed 6 = .ok (.ifCond .ne 5, 3) := by decide +kernel
theorem dX12_wed_9 : decode cX12_wed 9 = .ok (.iconst (-1), 1) := by decide +kernel
theorem dX12_wed_10 : decode cX12_wed 10 = .ok (.ireturn, 1) := by decide +kernel
theorem dX12_wed_11 : decode cX12_wed 11 = .ok (.aload_n 0, 1) := by decide +kernel
theorem dX12_wed_12 : decode cX12_wed 12 = .ok (.invokevirtual 365, 3) := by decide +kernel
theorem dX12_wed_15 : decode cX12_wed 15 = .ok (.aload_n 0, 1) := by decide +kernel
theorem dX12_wed_16 : decode cX12_wed 16 = .ok (.iload_n 1, 1) := by decide +kernel
theorem dX12_wed_17 : decode cX12_wed 17 = .ok (.iload_n 2, 1) := by decide +kernel
theorem dX12_wed_18 : decode cX12_wed 18 = .ok (.invokevirtual 350, 3) := by decide +kernel
theorem dX12_wed_21 : decode cX12_wed 21 = .ok (.aload_n 0, 1) := by decide +kernel
theorem dX12_wed_22 : decode cX12_wed 22 = .ok (.invokevirtual 323, 3) := by decide +kernel
theorem dX12_wed_25 : decode cX12_wed 25 = .ok (.invokestatic 326, 3) := by decide +kernel
theorem dX12_wed_28 : decode cX12_wed 28 = .ok (.ireturn, 1) := by decide +kernel
def m_wed (N : Nat) (a1 a2 : Int) (M : jMem) : Option (Int × jMem) := (m_canWed N a1 a2 M).bind fun r1 => (if r1 = 0 then some ((-1), M) else jbv (m_keepsAct N M) fun M2 => jbv (m_weds N a1 a2 M2) fun M3 => (m_homeOnes N M3).bind fun r4 => (m_bits N r4 M3).bind fun r5 => some (r5, M3))
theorem c_m_wed {l : Launch} {g : jG} (N : Nat) (a1 a2 : Int) (M : jMem)  : ∀ o, m_wed N a1 a2 M = some o → jCt l g jTM yX12_wed cX12_wed 3 (some .int) 0 7 [(2, 0), (0, a1), (0, a2)] M o := by
  refine jMet (own := RX12) (em := id) (L := [(0, 2, 0), (1, 0, a1), (2, 0, a2)]) (by decide +kernel) rfl (Nat.le_of_ble_eq_true rfl) rfl (fun K hR => ?_)
  unfold m_wed
  refine z_aload_n (pc := 0) hR 0 dX12_wed_0 rfl rfl ?_
  refine z_iload_n (pc := 1) hR 1 dX12_wed_1 rfl rfl ?_
  refine z_iload_n (pc := 2) hR 2 dX12_wed_2 rfl rfl ?_
  refine z_callvp (pc := 3) hR (As := [(0, a1), (0, a2)]) (st := []) jm_X12_canWed jl_RX12_304 kmo_0 (by decide) rfl (by decide) (c_m_canWed N a1 a2 M) rfl (by decide) (by decide) rfl (Nat.le_of_ble_eq_true rfl) dX12_wed_3 (fun r1 => ?_)
  refine z_ifne (pc := 6) (tgt := 11) hR dX12_wed_6 (by decide) ?_ ?_
  · refine z_aload_n (pc := 11) hR 0 dX12_wed_11 rfl rfl ?_
    refine z_callv0 (pc := 12) (rk' := 3) hR (As := []) (st := []) jm_X12_keepsAct jl_RX12_365 kmo_0 (by decide) rfl (c_m_keepsAct N M) rfl (by decide) (by decide) rfl (Nat.le_of_ble_eq_true rfl) dX12_wed_12 (fun M2 => ?_)
    refine z_aload_n (pc := 15) hR 0 dX12_wed_15 rfl rfl ?_
    refine z_iload_n (pc := 16) hR 1 dX12_wed_16 rfl rfl ?_
    refine z_iload_n (pc := 17) hR 2 dX12_wed_17 rfl rfl ?_
    refine z_callv0 (pc := 18) (rk' := 3) hR (As := [(0, a1), (0, a2)]) (st := []) jm_X12_weds jl_RX12_350 kmo_0 (by decide) rfl (c_m_weds N a1 a2 M2) rfl (by decide) (by decide) rfl (Nat.le_of_ble_eq_true rfl) dX12_wed_18 (fun M3 => ?_)
    refine z_aload_n (pc := 21) hR 0 dX12_wed_21 rfl rfl ?_
    refine z_callvp (pc := 22) hR (As := []) (st := []) jm_X12_homeOnes jl_RX12_323 kmo_0 (by decide) rfl (by decide) (c_m_homeOnes N M3) rfl (by decide) (by decide) rfl (Nat.le_of_ble_eq_true rfl) dX12_wed_22 (fun r4 => ?_)
    refine z_callsp (pc := 25) hR (As := [(0, r4)]) (st := []) jm_X12_bits jl_RX12_326 (by decide) (c_m_bits N r4 M3) rfl (by decide) (by decide) rfl (Nat.le_of_ble_eq_true rfl) dX12_wed_25 (fun r5 => ?_)
    exact z_ireturn (pc := 28) hR rfl rfl dX12_wed_28 rfl
  · refine z_iconst (pc := 9) hR dX12_wed_9 rfl ?_
    exact z_ireturn (pc := 10) hR rfl rfl dX12_wed_10 rfl
theorem dX12_pour_0 : decode cX12_pour 0 = .ok (.aload_n 0, 1) := by decide +kernel
theorem dX12_pour_1 : decode cX12_pour 1 = .ok (.iload_n 1, 1) := by decide +kernel
theorem dX12_pour_2 : decode cX12_pour 2 = .ok (.invokevirtual 298, 3) := by decide +kernel
theorem dX12_pour_5 : decode cX12_pour 5 = .ok (.ifCond .eq 15, 3) := by decide +kernel
theorem dX12_pour_8 : decode cX12_pour 8 = .ok (.iload_n 2, 1) := by decide +kernel
theorem dX12_pour_9 : decode cX12_pour 9 = .ok (.i2l, 1) := by decide +kernel
theorem dX12_pour_10 : decode cX12_pour 10 = .ok (.lconst 1, 1) := by decide +kernel
theorem dX12_pour_11 : decode cX12_pour 11 = .ok (.ldc2_w 368, 3) := by decide +kernel
theorem dX12_pour_14 : decode cX12_pour 14 = .ok (.invokestatic 127, 3) := by decide +kernel
theorem dX12_pour_17 : decode cX12_pour 17 = .ok (.ifCond .ne 5, 3) := by decide +kernel
theorem dX12_pour_20 : decode cX12_pour 20 = .ok (.iconst (-1), 1) := by decide +kernel
theorem dX12_pour_21 : decode cX12_pour 21 = .ok (.ireturn, 1) := by decide +kernel
theorem dX12_pour_22 : decode cX12_pour 22 = .ok (.aload_n 0, 1) := by decide +kernel
theorem dX12_pour_23 : decode cX12_pour 23 = .ok (.invokevirtual 365, 3) := by decide +kernel
theorem dX12_pour_26 : decode cX12_pour 26 = .ok (.aload_n 0, 1) := by decide +kernel
theorem dX12_pour_27 : decode cX12_pour 27 = .ok (.getfield 39, 3) := by decide +kernel
theorem dX12_pour_30 : decode cX12_pour 30 = .ok (.bipush 25, 2) := by decide +kernel
theorem dX12_pour_32 : decode cX12_pour 32 = .ok (.iload_n 1, 1) := by decide +kernel
theorem dX12_pour_33 : decode cX12_pour 33 = .ok (.iadd, 1) := by decide +kernel
theorem dX12_pour_34 : decode cX12_pour 34 = .ok (.aload_n 0, 1) := by decide +kernel
theorem dX12_pour_35 : decode cX12_pour 35 = .ok (.getfield 39, 3) := by decide +kernel
theorem dX12_pour_38 : decode cX12_pour 38 = .ok (.bipush 25, 2) := by decide +kernel
theorem dX12_pour_40 : decode cX12_pour 40 = .ok (.iload_n 1, 1) := by decide +kernel
theorem dX12_pour_41 : decode cX12_pour 41 = .ok (.iadd, 1) := by decide +kernel
theorem dX12_pour_42 : decode cX12_pour 42 = .ok (.iaload, 1) := by decide +kernel
theorem dX12_pour_43 : decode cX12_pour 43 = .ok (.iload_n 2, 1) := by decide +kernel
theorem dX12_pour_44 : decode cX12_pour 44 = .ok (.iadd, 1) := by decide +kernel
theorem dX12_pour_45 : decode cX12_pour 45 = .ok (.aload_n 0, 1) := by decide +kernel
theorem dX12_pour_46 : decode cX12_pour 46 = .ok (.getfield 39, 3) := by decide +kernel
theorem dX12_pour_49 : decode cX12_pour 49 = .ok (.bipush 11, 2) := by decide +kernel
theorem dX12_pour_51 : decode cX12_pour 51 = .ok (.iload_n 1, 1) := by decide +kernel
theorem dX12_pour_52 : decode cX12_pour 52 = .ok (.iadd, 1) := by decide +kernel
theorem dX12_pour_53 : decode cX12_pour 53 = .ok (.iaload, 1) := by decide +kernel
theorem dX12_pour_54 : decode cX12_pour 54 = .ok (.invokestatic 340, 3) := by decide +kernel
theorem dX12_pour_57 : decode cX12_pour 57 = .ok (.iastore, 1) := by decide +kernel
theorem dX12_pour_58 : decode cX12_pour 58 = .ok (.aload_n 0, 1) := by decide +kernel
theorem dX12_pour_59 : decode cX12_pour 59 = .ok (.getfield 39, 3) := by decide +kernel
theorem dX12_pour_62 : decode cX12_pour 62 = .ok (.bipush 25, 2) := by decide +kernel
theorem dX12_pour_64 : decode cX12_pour 64 = .ok (.iload_n 1, 1) := by decide +kernel
theorem dX12_pour_65 : decode cX12_pour 65 = .ok (.iadd, 1) := by decide +kernel
theorem dX12_pour_66 : decode cX12_pour 66 = .ok (.iaload, 1) := by decide +kernel
theorem dX12_pour_67 : decode cX12_pour 67 = .ok (.ireturn, 1) := by decide +kernel
def m_pour (N : Nat) (a1 a2 : Int) (M : jMem) : Option (Int × jMem) := (m_isOne N a1 M).bind fun r1 => (if r1 = 0 then some ((-1), M) else (m_in N a2 1 30 M).bind fun r2 => (if r2 = 0 then some ((-1), M) else jbv (m_keepsAct N M) fun M3 => jchk (0 ≤ (w32 (25 + a1)) ∧ (w32 (25 + a1)) < 112) <| jchk (0 ≤ (w32 (11 + a1)) ∧ (w32 (11 + a1)) < 112) <| (m_lesser N ((w32 (((M3 10 ((w32 (25 + a1))))) + a2))) ((M3 10 ((w32 (11 + a1))))) M3).bind fun r6 => jchk (0 ≤ (w32 (25 + a1)) ∧ (w32 (25 + a1)) < 112) <| jlt (up M3 10 ((w32 (25 + a1))) r6) fun M8 => jchk (0 ≤ (w32 (25 + a1)) ∧ (w32 (25 + a1)) < 112) <| some ((M8 10 ((w32 (25 + a1)))), M8)))
theorem c_m_pour {l : Launch} {g : jG} (N : Nat) (a1 a2 : Int) (M : jMem)  : ∀ o, m_pour N a1 a2 M = some o → jCt l g jTM yX12_pour cX12_pour 3 (some .int) 0 3 [(2, 0), (0, a1), (0, a2)] M o := by
  refine jMet (own := RX12) (em := id) (L := [(0, 2, 0), (1, 0, a1), (2, 0, a2)]) (by decide +kernel) rfl (Nat.le_of_ble_eq_true rfl) rfl (fun K hR => ?_)
  unfold m_pour
  refine z_aload_n (pc := 0) hR 0 dX12_pour_0 rfl rfl ?_
  refine z_iload_n (pc := 1) hR 1 dX12_pour_1 rfl rfl ?_
  refine z_callvp (pc := 2) hR (As := [(0, a1)]) (st := []) jm_X12_isOne jl_RX12_298 kmo_0 (by decide) rfl (by decide) (c_m_isOne N a1 M) rfl (by decide) (by decide) rfl (Nat.le_of_ble_eq_true rfl) dX12_pour_2 (fun r1 => ?_)
  refine z_ifeq (pc := 5) (tgt := 20) hR dX12_pour_5 (by decide) ?_ ?_
  · refine z_iconst (pc := 20) hR dX12_pour_20 rfl ?_
    exact z_ireturn (pc := 21) hR rfl rfl dX12_pour_21 rfl
  · refine z_iload_n (pc := 8) hR 2 dX12_pour_8 rfl rfl ?_
    refine z_i2l (pc := 9) hR dX12_pour_9 ?_
    refine z_lconst (pc := 10) hR (x := 1) dX12_pour_10 rfl ?_
    refine z_ldc2 (pc := 11) hR (n := 30) jc_RX12_368 (by decide) rfl dX12_pour_11 ?_
    refine z_callsp (pc := 14) hR (As := [(1, a2), (1, 1), (1, 30)]) (st := []) jm_X12_in jl_RX12_127 (by decide) (c_m_in N a2 1 30 M) rfl (by decide) (by decide) rfl (Nat.le_of_ble_eq_true rfl) dX12_pour_14 (fun r2 => ?_)
    refine z_ifne (pc := 17) (tgt := 22) hR dX12_pour_17 (by decide) ?_ ?_
    · refine z_aload_n (pc := 22) hR 0 dX12_pour_22 rfl rfl ?_
      refine z_callv0 (pc := 23) (rk' := 3) hR (As := []) (st := []) jm_X12_keepsAct jl_RX12_365 kmo_0 (by decide) rfl (c_m_keepsAct N M) rfl (by decide) (by decide) rfl (Nat.le_of_ble_eq_true rfl) dX12_pour_23 (fun M3 => ?_)
      refine z_aload_n (pc := 26) hR 0 dX12_pour_26 rfl rfl ?_
      refine z_getr (pc := 27) hR (c0 := 10) (r := 10) jf_RX12_39 kmo_0 (by decide) rfl rfl dX12_pour_27 ?_
      refine z_bipush (pc := 30) hR dX12_pour_30 rfl ?_
      refine z_iload_n (pc := 32) hR 1 dX12_pour_32 rfl rfl ?_
      refine z_iadd (pc := 33) hR dX12_pour_33 ?_
      refine z_aload_n (pc := 34) hR 0 dX12_pour_34 rfl rfl ?_
      refine z_getr (pc := 35) hR (c0 := 10) (r := 10) jf_RX12_39 kmo_0 (by decide) rfl rfl dX12_pour_35 ?_
      refine z_bipush (pc := 38) hR dX12_pour_38 rfl ?_
      refine z_iload_n (pc := 40) hR 1 dX12_pour_40 rfl rfl ?_
      refine z_iadd (pc := 41) hR dX12_pour_41 ?_
      refine z_chk (fun hc4 => ?_)
      refine z_iald (pc := 42) hR (n := 112) kma_10 hc4.1 hc4.2 dX12_pour_42 ?_
      refine z_iload_n (pc := 43) hR 2 dX12_pour_43 rfl rfl ?_
      refine z_iadd (pc := 44) hR dX12_pour_44 ?_
      refine z_aload_n (pc := 45) hR 0 dX12_pour_45 rfl rfl ?_
      refine z_getr (pc := 46) hR (c0 := 10) (r := 10) jf_RX12_39 kmo_0 (by decide) rfl rfl dX12_pour_46 ?_
      refine z_bipush (pc := 49) hR dX12_pour_49 rfl ?_
      refine z_iload_n (pc := 51) hR 1 dX12_pour_51 rfl rfl ?_
      refine z_iadd (pc := 52) hR dX12_pour_52 ?_
      refine z_chk (fun hc5 => ?_)
      refine z_iald (pc := 53) hR (n := 112) kma_10 hc5.1 hc5.2 dX12_pour_53 ?_
      refine z_callsp (pc := 54) hR (As := [(0, (w32 (((M3 10 ((w32 (25 + a1))))) + a2))), (0, (M3 10 ((w32 (11 + a1)))))]) (st := [(0, (w32 (25 + a1))), (2, 10)]) jm_X12_lesser jl_RX12_340 (by decide) (c_m_lesser N ((w32 (((M3 10 ((w32 (25 + a1))))) + a2))) ((M3 10 ((w32 (11 + a1))))) M3) rfl (by decide) (by decide) rfl (Nat.le_of_ble_eq_true rfl) dX12_pour_54 (fun r6 => ?_)
      refine z_chk (fun hc7 => ?_)
      refine z_iast (pc := 57) hR (n := 112) kma_10 hc7.1 hc7.2 dX12_pour_57 (fun M8 => ?_)
      refine z_aload_n (pc := 58) hR 0 dX12_pour_58 rfl rfl ?_
      refine z_getr (pc := 59) hR (c0 := 10) (r := 10) jf_RX12_39 kmo_0 (by decide) rfl rfl dX12_pour_59 ?_
      refine z_bipush (pc := 62) hR dX12_pour_62 rfl ?_
      refine z_iload_n (pc := 64) hR 1 dX12_pour_64 rfl rfl ?_
      refine z_iadd (pc := 65) hR dX12_pour_65 ?_
      refine z_chk (fun hc9 => ?_)
      refine z_iald (pc := 66) hR (n := 112) kma_10 hc9.1 hc9.2 dX12_pour_66 ?_
      exact z_ireturn (pc := 67) hR rfl rfl dX12_pour_67 rfl
    · refine z_iconst (pc := 20) hR dX12_pour_20 rfl ?_
      exact z_ireturn (pc := 21) hR rfl rfl dX12_pour_21 rfl
theorem dX12_dig_0 : decode cX12_dig 0 = .ok (.aload_n 0, 1) := by decide +kernel
theorem dX12_dig_1 : decode cX12_dig 1 = .ok (.iload_n 1, 1) := by decide +kernel
theorem dX12_dig_2 : decode cX12_dig 2 = .ok (.invokevirtual 298, 3) := by decide +kernel
theorem dX12_dig_5 : decode cX12_dig 5 = .ok (.ifCond .eq 15, 3) := by decide +kernel
theorem dX12_dig_8 : decode cX12_dig 8 = .ok (.iload_n 2, 1) := by decide +kernel
theorem dX12_dig_9 : decode cX12_dig 9 = .ok (.i2l, 1) := by decide +kernel
theorem dX12_dig_10 : decode cX12_dig 10 = .ok (.lconst 1, 1) := by decide +kernel
theorem dX12_dig_11 : decode cX12_dig 11 = .ok (.ldc2_w 370, 3) := by decide +kernel
theorem dX12_dig_14 : decode cX12_dig 14 = .ok (.invokestatic 127, 3) := by decide +kernel
theorem dX12_dig_17 : decode cX12_dig 17 = .ok (.ifCond .ne 5, 3) := by decide +kernel
theorem dX12_dig_20 : decode cX12_dig 20 = .ok (.iconst (-1), 1) := by decide +kernel
theorem dX12_dig_21 : decode cX12_dig 21 = .ok (.ireturn, 1) := by decide +kernel
theorem dX12_dig_22 : decode cX12_dig 22 = .ok (.aload_n 0, 1) := by decide +kernel
theorem dX12_dig_23 : decode cX12_dig 23 = .ok (.invokevirtual 365, 3) := by decide +kernel
theorem dX12_dig_26 : decode cX12_dig 26 = .ok (.aload_n 0, 1) := by decide +kernel
theorem dX12_dig_27 : decode cX12_dig 27 = .ok (.getfield 39, 3) := by decide +kernel
theorem dX12_dig_30 : decode cX12_dig 30 = .ok (.bipush 11, 2) := by decide +kernel
theorem dX12_dig_32 : decode cX12_dig 32 = .ok (.iload_n 1, 1) := by decide +kernel
theorem dX12_dig_33 : decode cX12_dig 33 = .ok (.iadd, 1) := by decide +kernel
theorem dX12_dig_34 : decode cX12_dig 34 = .ok (.aload_n 0, 1) := by decide +kernel
theorem dX12_dig_35 : decode cX12_dig 35 = .ok (.getfield 39, 3) := by decide +kernel
theorem dX12_dig_38 : decode cX12_dig 38 = .ok (.bipush 11, 2) := by decide +kernel
theorem dX12_dig_40 : decode cX12_dig 40 = .ok (.iload_n 1, 1) := by decide +kernel
theorem dX12_dig_41 : decode cX12_dig 41 = .ok (.iadd, 1) := by decide +kernel
theorem dX12_dig_42 : decode cX12_dig 42 = .ok (.iaload, 1) := by decide +kernel
theorem dX12_dig_43 : decode cX12_dig 43 = .ok (.iload_n 2, 1) := by decide +kernel
theorem dX12_dig_44 : decode cX12_dig 44 = .ok (.iadd, 1) := by decide +kernel
theorem dX12_dig_45 : decode cX12_dig 45 = .ok (.bipush 40, 2) := by decide +kernel
theorem dX12_dig_47 : decode cX12_dig 47 = .ok (.invokestatic 340, 3) := by decide +kernel
theorem dX12_dig_50 : decode cX12_dig 50 = .ok (.iastore, 1) := by decide +kernel
theorem dX12_dig_51 : decode cX12_dig 51 = .ok (.aload_n 0, 1) := by decide +kernel
theorem dX12_dig_52 : decode cX12_dig 52 = .ok (.getfield 39, 3) := by decide +kernel
theorem dX12_dig_55 : decode cX12_dig 55 = .ok (.bipush 11, 2) := by decide +kernel
theorem dX12_dig_57 : decode cX12_dig 57 = .ok (.iload_n 1, 1) := by decide +kernel
theorem dX12_dig_58 : decode cX12_dig 58 = .ok (.iadd, 1) := by decide +kernel
theorem dX12_dig_59 : decode cX12_dig 59 = .ok (.iaload, 1) := by decide +kernel
theorem dX12_dig_60 : decode cX12_dig 60 = .ok (.ireturn, 1) := by decide +kernel
def m_dig (N : Nat) (a1 a2 : Int) (M : jMem) : Option (Int × jMem) := (m_isOne N a1 M).bind fun r1 => (if r1 = 0 then some ((-1), M) else (m_in N a2 1 9 M).bind fun r2 => (if r2 = 0 then some ((-1), M) else jbv (m_keepsAct N M) fun M3 => jchk (0 ≤ (w32 (11 + a1)) ∧ (w32 (11 + a1)) < 112) <| (m_lesser N ((w32 (((M3 10 ((w32 (11 + a1))))) + a2))) 40 M3).bind fun r5 => jchk (0 ≤ (w32 (11 + a1)) ∧ (w32 (11 + a1)) < 112) <| jlt (up M3 10 ((w32 (11 + a1))) r5) fun M7 => jchk (0 ≤ (w32 (11 + a1)) ∧ (w32 (11 + a1)) < 112) <| some ((M7 10 ((w32 (11 + a1)))), M7)))
theorem c_m_dig {l : Launch} {g : jG} (N : Nat) (a1 a2 : Int) (M : jMem)  : ∀ o, m_dig N a1 a2 M = some o → jCt l g jTM yX12_dig cX12_dig 3 (some .int) 0 3 [(2, 0), (0, a1), (0, a2)] M o := by
  refine jMet (own := RX12) (em := id) (L := [(0, 2, 0), (1, 0, a1), (2, 0, a2)]) (by decide +kernel) rfl (Nat.le_of_ble_eq_true rfl) rfl (fun K hR => ?_)
  unfold m_dig
  refine z_aload_n (pc := 0) hR 0 dX12_dig_0 rfl rfl ?_
  refine z_iload_n (pc := 1) hR 1 dX12_dig_1 rfl rfl ?_
  refine z_callvp (pc := 2) hR (As := [(0, a1)]) (st := []) jm_X12_isOne jl_RX12_298 kmo_0 (by decide) rfl (by decide) (c_m_isOne N a1 M) rfl (by decide) (by decide) rfl (Nat.le_of_ble_eq_true rfl) dX12_dig_2 (fun r1 => ?_)
  refine z_ifeq (pc := 5) (tgt := 20) hR dX12_dig_5 (by decide) ?_ ?_
  · refine z_iconst (pc := 20) hR dX12_dig_20 rfl ?_
    exact z_ireturn (pc := 21) hR rfl rfl dX12_dig_21 rfl
  · refine z_iload_n (pc := 8) hR 2 dX12_dig_8 rfl rfl ?_
    refine z_i2l (pc := 9) hR dX12_dig_9 ?_
    refine z_lconst (pc := 10) hR (x := 1) dX12_dig_10 rfl ?_
    refine z_ldc2 (pc := 11) hR (n := 9) jc_RX12_370 (by decide) rfl dX12_dig_11 ?_
    refine z_callsp (pc := 14) hR (As := [(1, a2), (1, 1), (1, 9)]) (st := []) jm_X12_in jl_RX12_127 (by decide) (c_m_in N a2 1 9 M) rfl (by decide) (by decide) rfl (Nat.le_of_ble_eq_true rfl) dX12_dig_14 (fun r2 => ?_)
    refine z_ifne (pc := 17) (tgt := 22) hR dX12_dig_17 (by decide) ?_ ?_
    · refine z_aload_n (pc := 22) hR 0 dX12_dig_22 rfl rfl ?_
      refine z_callv0 (pc := 23) (rk' := 3) hR (As := []) (st := []) jm_X12_keepsAct jl_RX12_365 kmo_0 (by decide) rfl (c_m_keepsAct N M) rfl (by decide) (by decide) rfl (Nat.le_of_ble_eq_true rfl) dX12_dig_23 (fun M3 => ?_)
      refine z_aload_n (pc := 26) hR 0 dX12_dig_26 rfl rfl ?_
      refine z_getr (pc := 27) hR (c0 := 10) (r := 10) jf_RX12_39 kmo_0 (by decide) rfl rfl dX12_dig_27 ?_
      refine z_bipush (pc := 30) hR dX12_dig_30 rfl ?_
      refine z_iload_n (pc := 32) hR 1 dX12_dig_32 rfl rfl ?_
      refine z_iadd (pc := 33) hR dX12_dig_33 ?_
      refine z_aload_n (pc := 34) hR 0 dX12_dig_34 rfl rfl ?_
      refine z_getr (pc := 35) hR (c0 := 10) (r := 10) jf_RX12_39 kmo_0 (by decide) rfl rfl dX12_dig_35 ?_
      refine z_bipush (pc := 38) hR dX12_dig_38 rfl ?_
      refine z_iload_n (pc := 40) hR 1 dX12_dig_40 rfl rfl ?_
      refine z_iadd (pc := 41) hR dX12_dig_41 ?_
      refine z_chk (fun hc4 => ?_)
      refine z_iald (pc := 42) hR (n := 112) kma_10 hc4.1 hc4.2 dX12_dig_42 ?_
      refine z_iload_n (pc := 43) hR 2 dX12_dig_43 rfl rfl ?_
      refine z_iadd (pc := 44) hR dX12_dig_44 ?_
      refine z_bipush (pc := 45) hR dX12_dig_45 rfl ?_
      refine z_callsp (pc := 47) hR (As := [(0, (w32 (((M3 10 ((w32 (11 + a1))))) + a2))), (0, 40)]) (st := [(0, (w32 (11 + a1))), (2, 10)]) jm_X12_lesser jl_RX12_340 (by decide) (c_m_lesser N ((w32 (((M3 10 ((w32 (11 + a1))))) + a2))) 40 M3) rfl (by decide) (by decide) rfl (Nat.le_of_ble_eq_true rfl) dX12_dig_47 (fun r5 => ?_)
      refine z_chk (fun hc6 => ?_)
      refine z_iast (pc := 50) hR (n := 112) kma_10 hc6.1 hc6.2 dX12_dig_50 (fun M7 => ?_)
      refine z_aload_n (pc := 51) hR 0 dX12_dig_51 rfl rfl ?_
      refine z_getr (pc := 52) hR (c0 := 10) (r := 10) jf_RX12_39 kmo_0 (by decide) rfl rfl dX12_dig_52 ?_
      refine z_bipush (pc := 55) hR dX12_dig_55 rfl ?_
      refine z_iload_n (pc := 57) hR 1 dX12_dig_57 rfl rfl ?_
      refine z_iadd (pc := 58) hR dX12_dig_58 ?_
      refine z_chk (fun hc8 => ?_)
      refine z_iald (pc := 59) hR (n := 112) kma_10 hc8.1 hc8.2 dX12_dig_59 ?_
      exact z_ireturn (pc := 60) hR rfl rfl dX12_dig_60 rfl
    · refine z_iconst (pc := 20) hR dX12_dig_20 rfl ?_
      exact z_ireturn (pc := 21) hR rfl rfl dX12_dig_21 rfl
theorem dX12_birth_0 : decode cX12_birth 0 = .ok (.aload_n 0, 1) := by decide +kernel
theorem dX12_birth_1 : decode cX12_birth 1 = .ok (.iload_n 1, 1) := by decide +kernel
theorem dX12_birth_2 : decode cX12_birth 2 = .ok (.invokevirtual 298, 3) := by decide +kernel
theorem dX12_birth_5 : decode cX12_birth 5 = .ok (.ifCond .eq 17, 3) := by decide +kernel
theorem dX12_birth_8 : decode cX12_birth 8 = .ok (.aload_n 0, 1) := by decide +kernel
theorem dX12_birth_9 : decode cX12_birth 9 = .ok (.getfield 39, 3) := by decide +kernel
theorem dX12_birth_12 : decode cX12_birth 12 = .ok (.bipush 39, 2) := by decide +kernel
theorem dX12_birth_14 : decode cX12_birth 14 = .ok (.iload_n 1, 1) := by decide +kernel
theorem dX12_birth_15 : decode cX12_birth 15 = .ok (.iadd, 1) := by decide +kernel
theorem dX12_birth_16 : decode cX12_birth 16 = .ok (.iaload, 1) := by decide +kernel
theorem dX12_birth_17 : decode cX12_birth 17 = .ok (.bipush 9, 2) := by decide +kernel
theorem dX12_birth_19 : decode cX12_birth 19 = .ok (.if_icmp .ne 5, 3) := by decide +kernel
theorem dX12_birth_22 : decode cX12_birth 22 = .ok (.iconst (-1), 1) := by decide +kernel
theorem dX12_birth_23 : decode cX12_birth 23 = .ok (.ireturn, 1) := by decide +kernel
theorem dX12_birth_24 : decode cX12_birth 24 = .ok (.aload_n 0, 1) := by decide +kernel
theorem dX12_birth_25 : decode cX12_birth 25 = .ok (.invokevirtual 365, 3) := by decide +kernel
theorem dX12_birth_28 : decode cX12_birth 28 = .ok (.aload_n 0, 1) := by decide +kernel
theorem dX12_birth_29 : decode cX12_birth 29 = .ok (.iload_n 1, 1) := by decide +kernel
theorem dX12_birth_30 : decode cX12_birth 30 = .ok (.invokevirtual 359, 3) := by decide +kernel
theorem dX12_birth_33 : decode cX12_birth 33 = .ok (.aload_n 0, 1) := by decide +kernel
theorem dX12_birth_34 : decode cX12_birth 34 = .ok (.getfield 39, 3) := by decide +kernel
theorem dX12_birth_37 : decode cX12_birth 37 = .ok (.bipush 39, 2) := by decide +kernel
theorem dX12_birth_39 : decode cX12_birth 39 = .ok (.iload_n 1, 1) := by decide +kernel
theorem dX12_birth_40 : decode cX12_birth 40 = .ok (.iadd, 1) := by decide +kernel
theorem dX12_birth_41 : decode cX12_birth 41 = .ok (.iaload, 1) := by decide +kernel
theorem dX12_birth_42 : decode cX12_birth 42 = .ok (.ireturn, 1) := by decide +kernel
def m_birth (N : Nat) (a1 : Int) (M : jMem) : Option (Int × jMem) := (m_isOne N a1 M).bind fun r1 => (if r1 = 0 then some ((-1), M) else jchk (0 ≤ (w32 (39 + a1)) ∧ (w32 (39 + a1)) < 112) <| (if (M 10 ((w32 (39 + a1)))) = 9 then some ((-1), M) else jbv (m_keepsAct N M) fun M3 => jbv (m_bears N a1 M3) fun M4 => jchk (0 ≤ (w32 (39 + a1)) ∧ (w32 (39 + a1)) < 112) <| some ((M4 10 ((w32 (39 + a1)))), M4)))
theorem c_m_birth {l : Launch} {g : jG} (N : Nat) (a1 : Int) (M : jMem)  : ∀ o, m_birth N a1 M = some o → jCt l g jTM yX12_birth cX12_birth 2 (some .int) 0 5 [(2, 0), (0, a1)] M o := by
  refine jMet (own := RX12) (em := id) (L := [(0, 2, 0), (1, 0, a1)]) (by decide +kernel) rfl (Nat.le_of_ble_eq_true rfl) rfl (fun K hR => ?_)
  unfold m_birth
  refine z_aload_n (pc := 0) hR 0 dX12_birth_0 rfl rfl ?_
  refine z_iload_n (pc := 1) hR 1 dX12_birth_1 rfl rfl ?_
  refine z_callvp (pc := 2) hR (As := [(0, a1)]) (st := []) jm_X12_isOne jl_RX12_298 kmo_0 (by decide) rfl (by decide) (c_m_isOne N a1 M) rfl (by decide) (by decide) rfl (Nat.le_of_ble_eq_true rfl) dX12_birth_2 (fun r1 => ?_)
  refine z_ifeq (pc := 5) (tgt := 22) hR dX12_birth_5 (by decide) ?_ ?_
  · refine z_iconst (pc := 22) hR dX12_birth_22 rfl ?_
    exact z_ireturn (pc := 23) hR rfl rfl dX12_birth_23 rfl
  · refine z_aload_n (pc := 8) hR 0 dX12_birth_8 rfl rfl ?_
    refine z_getr (pc := 9) hR (c0 := 10) (r := 10) jf_RX12_39 kmo_0 (by decide) rfl rfl dX12_birth_9 ?_
    refine z_bipush (pc := 12) hR dX12_birth_12 rfl ?_
    refine z_iload_n (pc := 14) hR 1 dX12_birth_14 rfl rfl ?_
    refine z_iadd (pc := 15) hR dX12_birth_15 ?_
    refine z_chk (fun hc2 => ?_)
    refine z_iald (pc := 16) hR (n := 112) kma_10 hc2.1 hc2.2 dX12_birth_16 ?_
    refine z_bipush (pc := 17) hR dX12_birth_17 rfl ?_
    refine z_icmpne (pc := 19) (tgt := 24) hR dX12_birth_19 (by decide) ?_ ?_
    · refine z_aload_n (pc := 24) hR 0 dX12_birth_24 rfl rfl ?_
      refine z_callv0 (pc := 25) (rk' := 3) hR (As := []) (st := []) jm_X12_keepsAct jl_RX12_365 kmo_0 (by decide) rfl (c_m_keepsAct N M) rfl (by decide) (by decide) rfl (Nat.le_of_ble_eq_true rfl) dX12_birth_25 (fun M3 => ?_)
      refine z_aload_n (pc := 28) hR 0 dX12_birth_28 rfl rfl ?_
      refine z_iload_n (pc := 29) hR 1 dX12_birth_29 rfl rfl ?_
      refine z_callv0 (pc := 30) (rk' := 3) hR (As := [(0, a1)]) (st := []) jm_X12_bears jl_RX12_359 kmo_0 (by decide) rfl (c_m_bears N a1 M3) rfl (by decide) (by decide) rfl (Nat.le_of_ble_eq_true rfl) dX12_birth_30 (fun M4 => ?_)
      refine z_aload_n (pc := 33) hR 0 dX12_birth_33 rfl rfl ?_
      refine z_getr (pc := 34) hR (c0 := 10) (r := 10) jf_RX12_39 kmo_0 (by decide) rfl rfl dX12_birth_34 ?_
      refine z_bipush (pc := 37) hR dX12_birth_37 rfl ?_
      refine z_iload_n (pc := 39) hR 1 dX12_birth_39 rfl rfl ?_
      refine z_iadd (pc := 40) hR dX12_birth_40 ?_
      refine z_chk (fun hc5 => ?_)
      refine z_iald (pc := 41) hR (n := 112) kma_10 hc5.1 hc5.2 dX12_birth_41 ?_
      exact z_ireturn (pc := 42) hR rfl rfl dX12_birth_42 rfl
    · refine z_iconst (pc := 22) hR dX12_birth_22 rfl ?_
      exact z_ireturn (pc := 23) hR rfl rfl dX12_birth_23 rfl
theorem dX12_rowsOf_0 : decode cX12_rowsOf 0 = .ok (.iconst 1, 1) := by decide +kernel
theorem dX12_rowsOf_1 : decode cX12_rowsOf 1 = .ok (.istore_n 1, 1) := by decide +kernel
theorem dX12_rowsOf_2 : decode cX12_rowsOf 2 = .ok (.iconst 2, 1) := by decide +kernel
theorem dX12_rowsOf_3 : decode cX12_rowsOf 3 = .ok (.istore_n 2, 1) := by decide +kernel
theorem dX12_rowsOf_4 : decode cX12_rowsOf 4 = .ok (.iload_n 2, 1) := by decide +kernel
theorem dX12_rowsOf_5 : decode cX12_rowsOf 5 = .ok (.iload_n 0, 1) := by decide +kernel
theorem dX12_rowsOf_6 : decode cX12_rowsOf 6 = .ok (.if_icmp .gt 13, 3) := by decide +kernel
theorem dX12_rowsOf_9 : decode cX12_rowsOf 9 = .ok (.iload_n 1, 1) := by decide +kernel
theorem dX12_rowsOf_10 : decode cX12_rowsOf 10 = .ok (.iload_n 2, 1) := by decide +kernel
theorem dX12_rowsOf_11 : decode cX12_rowsOf 11 = .ok (.imul, 1) := by decide +kernel
theorem dX12_rowsOf_12 : decode cX12_rowsOf 12 = .ok (.istore_n 1, 1) := by decide +kernel
theorem dX12_rowsOf_13 : decode cX12_rowsOf 13 = .ok (.iinc 2 1, 3) := by decide +kernel
theorem dX12_rowsOf_16 : decode cX12_rowsOf 16 = .ok (.goto (-12), 3) := by decide +kernel
theorem dX12_rowsOf_19 : decode cX12_rowsOf 19 = .ok (.iload_n 1, 1) := by decide +kernel
theorem dX12_rowsOf_20 : decode cX12_rowsOf 20 = .ok (.ireturn, 1) := by decide +kernel
def m_rowsOf_L4 (N : Nat) (a0 : Int) (h4 : (Int × Int) → Option Int) : Int × Int → Option Int
  | (x1, x2) => (if a0 < x2 then some x1 else jlt ((w32 (x1 * x2))) fun v3 => h4 (v3, (w32 (x2 + 1))))
def m_rowsOf (N : Nat) (a0 : Int) (M : jMem) : Option Int := jfix N (m_rowsOf_L4 N a0) (1, 2)
theorem c_m_rowsOf {l : Launch} {g : jG} (N : Nat) (a0 : Int) (M : jMem)  : ∀ o, m_rowsOf N a0 M = some o → jCt l g jTM yX12_rowsOf cX12_rowsOf 3 (some .int) 0 1 [(0, a0)] M (o, M) := by
  refine jMet (own := RX12) (em := (fun r => (r, M))) (L := [(0, 0, a0)]) (by decide +kernel) rfl (Nat.le_of_ble_eq_true rfl) rfl (fun K hR => ?_)
  unfold m_rowsOf
  refine z_iconst (pc := 0) hR dX12_rowsOf_0 rfl ?_
  refine z_istore_n (pc := 1) hR (lv' := [(1, 0, 1), (0, 0, a0)]) dX12_rowsOf_1 rfl (by decide) rfl ?_
  refine z_iconst (pc := 2) hR dX12_rowsOf_2 rfl ?_
  refine z_istore_n (pc := 3) hR (lv' := [(2, 0, 2), (1, 0, 1), (0, 0, a0)]) dX12_rowsOf_3 rfl (by decide) rfl ?_
  refine z_pick (pc := 4) (lv' := [(0, 0, a0), (1, 0, 1), (2, 0, 2)]) hR [2, 1, 0] rfl ?_
  refine z_fix (σ := Int × Int) (lv := fun s => [(0, 0, a0), (1, 0, s.1), (2, 0, s.2)]) (st := fun _ => []) (M := fun _ => M) (fun h4 hh4 => ?_) N (1, 2)
  rintro ⟨x1, x2⟩
  show jZ K (fun r => (r, M)) 4 [(0, 0, a0), (1, 0, x1), (2, 0, x2)] [] M _
  unfold m_rowsOf_L4
  refine z_iload_n (pc := 4) hR 2 dX12_rowsOf_4 rfl rfl ?_
  refine z_iload_n (pc := 5) hR 0 dX12_rowsOf_5 rfl rfl ?_
  refine z_icmpgt (pc := 6) (tgt := 19) hR dX12_rowsOf_6 (by decide) ?_ ?_
  · refine z_iload_n (pc := 19) hR 1 dX12_rowsOf_19 rfl rfl ?_
    exact z_ireturn (pc := 20) hR rfl rfl dX12_rowsOf_20 rfl
  · refine z_iload_n (pc := 9) hR 1 dX12_rowsOf_9 rfl rfl ?_
    refine z_iload_n (pc := 10) hR 2 dX12_rowsOf_10 rfl rfl ?_
    refine z_imul (pc := 11) hR dX12_rowsOf_11 ?_
    refine z_let1 (fun v3 => ?_)
    refine z_istore_n (pc := 12) hR (lv' := [(1, 0, v3), (0, 0, a0), (2, 0, x2)]) dX12_rowsOf_12 rfl (by decide) rfl ?_
    refine z_iinc (pc := 13) hR (j := 2) (lv' := [(2, 0, (w32 (x2 + 1))), (1, 0, v3), (0, 0, a0)]) dX12_rowsOf_13 rfl (by decide) rfl ?_
    refine z_goto (pc := 16) (tgt := 4) hR dX12_rowsOf_16 (by decide) ?_
    refine z_pick (pc := 4) (lv' := [(0, 0, a0), (1, 0, v3), (2, 0, (w32 (x2 + 1)))]) hR [2, 1, 0] rfl ?_
    exact hh4 (v3, (w32 (x2 + 1)))
theorem dX12_rankOf_0 : decode cX12_rankOf 0 = .ok (.iconst 0, 1) := by decide +kernel
theorem dX12_rankOf_1 : decode cX12_rankOf 1 = .ok (.istore_n 2, 1) := by decide +kernel
theorem dX12_rankOf_2 : decode cX12_rankOf 2 = .ok (.iconst 0, 1) := by decide +kernel
theorem dX12_rankOf_3 : decode cX12_rankOf 3 = .ok (.istore_n 3, 1) := by decide +kernel
theorem dX12_rankOf_4 : decode cX12_rankOf 4 = .ok (.iload_n 3, 1) := by decide +kernel
theorem dX12_rankOf_5 : decode cX12_rankOf 5 = .ok (.aload_n 0, 1) := by decide +kernel
theorem dX12_rankOf_6 : decode cX12_rankOf 6 = .ok (.getfield 39, 3) := by decide +kernel
theorem dX12_rankOf_9 : decode cX12_rankOf 9 = .ok (.iconst 1, 1) := by decide +kernel
theorem dX12_rankOf_10 : decode cX12_rankOf 10 = .ok (.iaload, 1) := by decide +kernel
theorem dX12_rankOf_11 : decode cX12_rankOf 11 = .ok (.if_icmp .ge 73, 3) := by decide +kernel
theorem dX12_rankOf_14 : decode cX12_rankOf 14 = .ok (.iconst 0, 1) := by decide +kernel
theorem dX12_rankOf_15 : decode cX12_rankOf 15 = .ok (.istore 4, 2) := by decide +kernel
theorem dX12_rankOf_17 : decode cX12_rankOf 17 = .ok (.iload_n 3, 1) := by decide +kernel
theorem dX12_rankOf_18 : decode cX12_rankOf 18 = .ok (.iconst 1, 1) := by decide +kernel
theorem dX12_rankOf_19 : decode cX12_rankOf 19 = .ok (.iadd, 1) := by decide +kernel
theorem dX12_rankOf_20 : decode cX12_rankOf 20 = .ok (.istore 5, 2) := by decide +kernel
theorem dX12_rankOf_22 : decode cX12_rankOf 22 = .ok (.iload 5, 2) := by decide +kernel
theorem dX12_rankOf_24 : decode cX12_rankOf 24 = .ok (.aload_n 0, 1) := by decide +kernel
theorem dX12_rankOf_25 : decode cX12_rankOf 25 = .ok (.getfield 39, 3) := by decide +kernel
theorem dX12_rankOf_28 : decode cX12_rankOf 28 = .ok (.iconst 1, 1) := by decide +kernel
theorem dX12_rankOf_29 : decode cX12_rankOf 29 = .ok (.iaload, 1) := by decide +kernel
theorem dX12_rankOf_30 : decode cX12_rankOf 30 = .ok (.if_icmp .ge 29, 3) := by decide +kernel
theorem dX12_rankOf_33 : decode cX12_rankOf 33 = .ok (.iload 4, 2) := by decide +kernel
theorem dX12_rankOf_35 : decode cX12_rankOf 35 = .ok (.aload_n 1, 1) := by decide +kernel
theorem dX12_rankOf_36 : decode cX12_rankOf 36 = .ok (.iload 5, 2) := by decide +kernel
theorem dX12_rankOf_38 : decode cX12_rankOf 38 = .ok (.iaload, 1) := by decide +kernel
theorem dX12_rankOf_39 : decode cX12_rankOf 39 = .ok (.aload_n 1, 1) := by decide +kernel
theorem dX12_rankOf_40 : decode cX12_rankOf 40 = .ok (.iload_n 3, 1) := by decide +kernel
theorem dX12_rankOf_41 : decode cX12_rankOf 41 = .ok (.iaload, 1) := by decide +kernel
theorem dX12_rankOf_42 : decode cX12_rankOf 42 = .ok (.if_icmp .ge 7, 3) := by decide +kernel
theorem dX12_rankOf_45 : decode cX12_rankOf 45 = .ok (.iconst 1, 1) := by decide +kernel
theorem dX12_rankOf_46 : decode cX12_rankOf 46 = .ok (.goto 4, 3) := by decide +kernel
theorem dX12_rankOf_49 : decode cX12_rankOf 49 = .ok (.iconst 0, 1) := by decide +kernel
theorem dX12_rankOf_50 : decode cX12_rankOf 50 = .ok (.iadd, 1) := by decide +kernel
theorem dX12_rankOf_51 : decode cX12_rankOf 51 = .ok (.istore 4, 2) := by decide +kernel
theorem dX12_rankOf_53 : decode cX12_rankOf 53 = .ok (.iinc 5 1, 3) := by decide +kernel
theorem dX12_rankOf_56 : decode cX12_rankOf 56 = .ok (.goto (-34), 3) := by decide +kernel
theorem dX12_rankOf_59 : decode cX12_rankOf 59 = .ok (.iload_n 2, 1) := by decide +kernel
theorem dX12_rankOf_60 : decode cX12_rankOf 60 = .ok (.iload 4, 2) := by decide +kernel
theorem dX12_rankOf_62 : decode cX12_rankOf 62 = .ok (.aload_n 0, 1) := by decide +kernel
theorem dX12_rankOf_63 : decode cX12_rankOf 63 = .ok (.getfield 39, 3) := by decide +kernel
theorem dX12_rankOf_66 : decode cX12_rankOf 66 = .ok (.iconst 1, 1) := by decide +kernel
theorem dX12_rankOf_67 : decode cX12_rankOf 67 = .ok (.iaload, 1) := by decide +kernel
theorem dX12_rankOf_68 : decode cX12_rankOf 68 = .ok (.iconst 1, 1) := by decide +kernel
theorem dX12_rankOf_69 : decode cX12_rankOf 69 = .ok (.isub, 1) := by decide +kernel
theorem dX12_rankOf_70 : decode cX12_rankOf 70 = .ok (.iload_n 3, 1) := by decide +kernel
theorem dX12_rankOf_71 : decode cX12_rankOf 71 = .ok (.isub, 1) := by decide +kernel
theorem dX12_rankOf_72 : decode cX12_rankOf 72 = .ok (.invokestatic 372, 3) := by decide +kernel
theorem dX12_rankOf_75 : decode cX12_rankOf 75 = .ok (.imul, 1) := by decide +kernel
theorem dX12_rankOf_76 : decode cX12_rankOf 76 = .ok (.iadd, 1) := by decide +kernel
theorem dX12_rankOf_77 : decode cX12_rankOf 77 = .ok (.istore_n 2, 1) := by decide +kernel
theorem dX12_rankOf_78 : decode cX12_rankOf 78 = .ok (.iinc 3 1, 3) := by decide +kernel
theorem dX12_rankOf_81 : decode cX12_rankOf 81 = .ok (.goto (-77), 3) := by decide +kernel
theorem dX12_rankOf_84 : decode cX12_rankOf 84 = .ok (.iload_n 2, 1) := by decide +kernel
theorem dX12_rankOf_85 : decode cX12_rankOf 85 = .ok (.ireturn, 1) := by decide +kernel
def m_rankOf_L22 (N : Nat) (a1 : Int) (M : jMem) (x1 : Int) (x2 : Int) (h4 : (Int × Int) → Option Int) (h22 : (Int × Int) → Option Int) : Int × Int → Option Int
  | (x4, x5) => (if x5 < (M 10 1) then jchk (0 ≤ x5 ∧ x5 < 7) <| jchk (0 ≤ x2 ∧ x2 < 7) <| (if (M a1 x5) < (M a1 x2) then jlt ((w32 (x4 + 1))) fun v11 => h22 (v11, (w32 (x5 + 1))) else jlt ((w32 (x4 + 0))) fun v10 => h22 (v10, (w32 (x5 + 1)))) else (m_rowsOf N ((w32 (((w32 (((M 10 1)) - 1))) - x2))) M).bind fun r6 => jlt ((w32 (x1 + ((w32 (x4 * r6)))))) fun v7 => h4 (v7, (w32 (x2 + 1))))
def m_rankOf_L4 (N : Nat) (a1 : Int) (M : jMem) (h4 : (Int × Int) → Option Int) : Int × Int → Option Int
  | (x1, x2) => (if x2 < (M 10 1) then jlt ((w32 (x2 + 1))) fun v3 => jfix N (m_rankOf_L22 N a1 M x1 x2 h4) (0, v3) else some x1)
def m_rankOf (N : Nat) (a1 : Int) (M : jMem) : Option Int := jfix N (m_rankOf_L4 N a1 M) (0, 0)
theorem c_m_rankOf {l : Launch} {g : jG} (N : Nat) (a1 : Int) (M : jMem) (ha1 : ja jTM a1 0 7) : ∀ o, m_rankOf N a1 M = some o → jCt l g jTM yX12_rankOf cX12_rankOf 6 (some .int) 0 3 [(2, 0), (2, a1)] M (o, M) := by
  refine jMet (own := RX12) (em := (fun r => (r, M))) (L := [(0, 2, 0), (1, 2, a1)]) (by decide +kernel) rfl (Nat.le_of_ble_eq_true rfl) rfl (fun K hR => ?_)
  unfold m_rankOf
  refine z_iconst (pc := 0) hR dX12_rankOf_0 rfl ?_
  refine z_istore_n (pc := 1) hR (lv' := [(2, 0, 0), (0, 2, 0), (1, 2, a1)]) dX12_rankOf_1 rfl (by decide) rfl ?_
  refine z_iconst (pc := 2) hR dX12_rankOf_2 rfl ?_
  refine z_istore_n (pc := 3) hR (lv' := [(3, 0, 0), (2, 0, 0), (0, 2, 0), (1, 2, a1)]) dX12_rankOf_3 rfl (by decide) rfl ?_
  refine z_pick (pc := 4) (lv' := [(0, 2, 0), (1, 2, a1), (2, 0, 0), (3, 0, 0)]) hR [2, 3, 1, 0] rfl ?_
  refine z_fix (σ := Int × Int) (lv := fun s => [(0, 2, 0), (1, 2, a1), (2, 0, s.1), (3, 0, s.2)]) (st := fun _ => []) (M := fun _ => M) (fun h4 hh4 => ?_) N (0, 0)
  rintro ⟨x1, x2⟩
  show jZ K (fun r => (r, M)) 4 [(0, 2, 0), (1, 2, a1), (2, 0, x1), (3, 0, x2)] [] M _
  unfold m_rankOf_L4
  refine z_iload_n (pc := 4) hR 3 dX12_rankOf_4 rfl rfl ?_
  refine z_aload_n (pc := 5) hR 0 dX12_rankOf_5 rfl rfl ?_
  refine z_getr (pc := 6) hR (c0 := 10) (r := 10) jf_RX12_39 kmo_0 (by decide) rfl rfl dX12_rankOf_6 ?_
  refine z_iconst (pc := 9) hR dX12_rankOf_9 rfl ?_
  refine z_iald (pc := 10) hR (n := 112) kma_10 (by decide) (by decide) dX12_rankOf_10 ?_
  refine z_icmpge (pc := 11) (tgt := 84) hR dX12_rankOf_11 (by decide) ?_ ?_
  · refine z_iload_n (pc := 84) hR 2 dX12_rankOf_84 rfl rfl ?_
    exact z_ireturn (pc := 85) hR rfl rfl dX12_rankOf_85 rfl
  · refine z_iconst (pc := 14) hR dX12_rankOf_14 rfl ?_
    refine z_istore (pc := 15) hR (lv' := [(4, 0, 0), (0, 2, 0), (1, 2, a1), (2, 0, x1), (3, 0, x2)]) dX12_rankOf_15 (by decide) rfl ?_
    refine z_iload_n (pc := 17) hR 4 dX12_rankOf_17 rfl rfl ?_
    refine z_iconst (pc := 18) hR dX12_rankOf_18 rfl ?_
    refine z_iadd (pc := 19) hR dX12_rankOf_19 ?_
    refine z_let1 (fun v3 => ?_)
    refine z_istore (pc := 20) hR (lv' := [(5, 0, v3), (4, 0, 0), (0, 2, 0), (1, 2, a1), (2, 0, x1), (3, 0, x2)]) dX12_rankOf_20 (by decide) rfl ?_
    refine z_pick (pc := 22) (lv' := [(0, 2, 0), (1, 2, a1), (2, 0, x1), (3, 0, x2), (4, 0, 0), (5, 0, v3)]) hR [2, 3, 4, 5, 1, 0] rfl ?_
    refine z_fix (σ := Int × Int) (lv := fun s => [(0, 2, 0), (1, 2, a1), (2, 0, x1), (3, 0, x2), (4, 0, s.1), (5, 0, s.2)]) (st := fun _ => []) (M := fun _ => M) (fun h22 hh22 => ?_) N (0, v3)
    rintro ⟨x4, x5⟩
    show jZ K (fun r => (r, M)) 22 [(0, 2, 0), (1, 2, a1), (2, 0, x1), (3, 0, x2), (4, 0, x4), (5, 0, x5)] [] M _
    unfold m_rankOf_L22
    refine z_iload (pc := 22) hR 5 dX12_rankOf_22 rfl ?_
    refine z_aload_n (pc := 24) hR 0 dX12_rankOf_24 rfl rfl ?_
    refine z_getr (pc := 25) hR (c0 := 10) (r := 10) jf_RX12_39 kmo_0 (by decide) rfl rfl dX12_rankOf_25 ?_
    refine z_iconst (pc := 28) hR dX12_rankOf_28 rfl ?_
    refine z_iald (pc := 29) hR (n := 112) kma_10 (by decide) (by decide) dX12_rankOf_29 ?_
    refine z_icmpge (pc := 30) (tgt := 59) hR dX12_rankOf_30 (by decide) ?_ ?_
    · refine z_iload_n (pc := 59) hR 2 dX12_rankOf_59 rfl rfl ?_
      refine z_iload (pc := 60) hR 4 dX12_rankOf_60 rfl ?_
      refine z_aload_n (pc := 62) hR 0 dX12_rankOf_62 rfl rfl ?_
      refine z_getr (pc := 63) hR (c0 := 10) (r := 10) jf_RX12_39 kmo_0 (by decide) rfl rfl dX12_rankOf_63 ?_
      refine z_iconst (pc := 66) hR dX12_rankOf_66 rfl ?_
      refine z_iald (pc := 67) hR (n := 112) kma_10 (by decide) (by decide) dX12_rankOf_67 ?_
      refine z_iconst (pc := 68) hR dX12_rankOf_68 rfl ?_
      refine z_isub (pc := 69) hR dX12_rankOf_69 ?_
      refine z_iload_n (pc := 70) hR 3 dX12_rankOf_70 rfl rfl ?_
      refine z_isub (pc := 71) hR dX12_rankOf_71 ?_
      refine z_callsp (pc := 72) hR (As := [(0, (w32 (((w32 (((M 10 1)) - 1))) - x2)))]) (st := [(0, x4), (0, x1)]) jm_X12_rowsOf jl_RX12_372 (by decide) (c_m_rowsOf N ((w32 (((w32 (((M 10 1)) - 1))) - x2))) M) rfl (by decide) (by decide) rfl (Nat.le_of_ble_eq_true rfl) dX12_rankOf_72 (fun r6 => ?_)
      refine z_imul (pc := 75) hR dX12_rankOf_75 ?_
      refine z_iadd (pc := 76) hR dX12_rankOf_76 ?_
      refine z_let1 (fun v7 => ?_)
      refine z_istore_n (pc := 77) hR (lv' := [(2, 0, v7), (0, 2, 0), (1, 2, a1), (3, 0, x2), (4, 0, x4), (5, 0, x5)]) dX12_rankOf_77 rfl (by decide) rfl ?_
      refine z_iinc (pc := 78) hR (j := 3) (lv' := [(3, 0, (w32 (x2 + 1))), (2, 0, v7), (0, 2, 0), (1, 2, a1), (4, 0, x4), (5, 0, x5)]) dX12_rankOf_78 rfl (by decide) rfl ?_
      refine z_goto (pc := 81) (tgt := 4) hR dX12_rankOf_81 (by decide) ?_
      refine z_pick (pc := 4) (lv' := [(0, 2, 0), (1, 2, a1), (2, 0, v7), (3, 0, (w32 (x2 + 1)))]) hR [2, 3, 1, 0] rfl ?_
      exact hh4 (v7, (w32 (x2 + 1)))
    · refine z_iload (pc := 33) hR 4 dX12_rankOf_33 rfl ?_
      refine z_aload_n (pc := 35) hR 1 dX12_rankOf_35 rfl rfl ?_
      refine z_iload (pc := 36) hR 5 dX12_rankOf_36 rfl ?_
      refine z_chk (fun hc8 => ?_)
      refine z_iald (pc := 38) hR (n := 7) ha1 hc8.1 hc8.2 dX12_rankOf_38 ?_
      refine z_aload_n (pc := 39) hR 1 dX12_rankOf_39 rfl rfl ?_
      refine z_iload_n (pc := 40) hR 3 dX12_rankOf_40 rfl rfl ?_
      refine z_chk (fun hc9 => ?_)
      refine z_iald (pc := 41) hR (n := 7) ha1 hc9.1 hc9.2 dX12_rankOf_41 ?_
      refine z_icmpge (pc := 42) (tgt := 49) hR dX12_rankOf_42 (by decide) ?_ ?_
      · refine z_iconst (pc := 49) hR dX12_rankOf_49 rfl ?_
        refine z_iadd (pc := 50) hR dX12_rankOf_50 ?_
        refine z_let1 (fun v10 => ?_)
        refine z_istore (pc := 51) hR (lv' := [(4, 0, v10), (0, 2, 0), (1, 2, a1), (2, 0, x1), (3, 0, x2), (5, 0, x5)]) dX12_rankOf_51 (by decide) rfl ?_
        refine z_iinc (pc := 53) hR (j := 5) (lv' := [(5, 0, (w32 (x5 + 1))), (4, 0, v10), (0, 2, 0), (1, 2, a1), (2, 0, x1), (3, 0, x2)]) dX12_rankOf_53 rfl (by decide) rfl ?_
        refine z_goto (pc := 56) (tgt := 22) hR dX12_rankOf_56 (by decide) ?_
        refine z_pick (pc := 22) (lv' := [(0, 2, 0), (1, 2, a1), (2, 0, x1), (3, 0, x2), (4, 0, v10), (5, 0, (w32 (x5 + 1)))]) hR [2, 3, 4, 5, 1, 0] rfl ?_
        exact hh22 (v10, (w32 (x5 + 1)))
      · refine z_iconst (pc := 45) hR dX12_rankOf_45 rfl ?_
        refine z_goto (pc := 46) (tgt := 50) hR dX12_rankOf_46 (by decide) ?_
        refine z_iadd (pc := 50) hR dX12_rankOf_50 ?_
        refine z_let1 (fun v11 => ?_)
        refine z_istore (pc := 51) hR (lv' := [(4, 0, v11), (0, 2, 0), (1, 2, a1), (2, 0, x1), (3, 0, x2), (5, 0, x5)]) dX12_rankOf_51 (by decide) rfl ?_
        refine z_iinc (pc := 53) hR (j := 5) (lv' := [(5, 0, (w32 (x5 + 1))), (4, 0, v11), (0, 2, 0), (1, 2, a1), (2, 0, x1), (3, 0, x2)]) dX12_rankOf_53 rfl (by decide) rfl ?_
        refine z_goto (pc := 56) (tgt := 22) hR dX12_rankOf_56 (by decide) ?_
        refine z_pick (pc := 22) (lv' := [(0, 2, 0), (1, 2, a1), (2, 0, x1), (3, 0, x2), (4, 0, v11), (5, 0, (w32 (x5 + 1)))]) hR [2, 3, 4, 5, 1, 0] rfl ?_
        exact hh22 (v11, (w32 (x5 + 1)))
theorem dX12_rowOf_0 : decode cX12_rowOf 0 = .ok (.iconst 0, 1) := by decide +kernel
theorem dX12_rowOf_1 : decode cX12_rowOf 1 = .ok (.istore_n 2, 1) := by decide +kernel
theorem dX12_rowOf_2 : decode cX12_rowOf 2 = .ok (.iload_n 1, 1) := by decide +kernel
theorem dX12_rowOf_3 : decode cX12_rowOf 3 = .ok (.istore_n 3, 1) := by decide +kernel
theorem dX12_rowOf_4 : decode cX12_rowOf 4 = .ok (.iconst 0, 1) := by decide +kernel
theorem dX12_rowOf_5 : decode cX12_rowOf 5 = .ok (.istore 4, 2) := by decide +kernel
theorem dX12_rowOf_7 : decode cX12_rowOf 7 = .ok (.iload 4, 2) := by decide +kernel
theorem dX12_rowOf_9 : decode cX12_rowOf 9 = .ok (.aload_n 0, 1) := by decide +kernel
theorem dX12_rowOf_10 : decode cX12_rowOf 10 = .ok (.getfield 39, 3) := by decide +kernel
theorem dX12_rowOf_13 : decode cX12_rowOf 13 = .ok (.iconst 1, 1) := by decide +kernel
theorem dX12_rowOf_14 : decode cX12_rowOf 14 = .ok (.iaload, 1) := by decide +kernel
theorem dX12_rowOf_15 : decode cX12_rowOf 15 = .ok (.if_icmp .ge 94, 3) := by decide +kernel
theorem dX12_rowOf_18 : decode cX12_rowOf 18 = .ok (.aload_n 0, 1) := by decide +kernel
theorem dX12_rowOf_19 : decode cX12_rowOf 19 = .ok (.getfield 39, 3) := by decide +kernel
theorem dX12_rowOf_22 : decode cX12_rowOf 22 = .ok (.iconst 1, 1) := by decide +kernel
theorem dX12_rowOf_23 : decode cX12_rowOf 23 = .ok (.iaload, 1) := by decide +kernel
theorem dX12_rowOf_24 : decode cX12_rowOf 24 = .ok (.iconst 1, 1) := by decide +kernel
theorem dX12_rowOf_25 : decode cX12_rowOf 25 = .ok (.isub, 1) := by decide +kernel
theorem dX12_rowOf_26 : decode cX12_rowOf 26 = .ok (.iload 4, 2) := by decide +kernel
theorem dX12_rowOf_28 : decode cX12_rowOf 28 = .ok (.isub, 1) := by decide +kernel
theorem dX12_rowOf_29 : decode cX12_rowOf 29 = .ok (.invokestatic 372, 3) := by decide +kernel
theorem dX12_rowOf_32 : decode cX12_rowOf 32 = .ok (.istore 5, 2) := by decide +kernel
theorem dX12_rowOf_34 : decode cX12_rowOf 34 = .ok (.iload_n 3, 1) := by decide +kernel
theorem dX12_rowOf_35 : decode cX12_rowOf 35 = .ok (.iload 5, 2) := by decide +kernel
theorem dX12_rowOf_37 : decode cX12_rowOf 37 = .ok (.idiv, 1) := by decide +kernel
theorem dX12_rowOf_38 : decode cX12_rowOf 38 = .ok (.istore 6, 2) := by decide +kernel
theorem dX12_rowOf_40 : decode cX12_rowOf 40 = .ok (.iconst 0, 1) := by decide +kernel
theorem dX12_rowOf_41 : decode cX12_rowOf 41 = .ok (.istore 7, 2) := by decide +kernel
theorem dX12_rowOf_43 : decode cX12_rowOf 43 = .ok (.iload_n 2, 1) := by decide +kernel
theorem dX12_rowOf_44 : decode cX12_rowOf 44 = .ok (.iload 7, 2) := by decide +kernel
theorem dX12_rowOf_46 : decode cX12_rowOf 46 = .ok (.invokestatic 295, 3) := by decide +kernel
theorem dX12_rowOf_49 : decode cX12_rowOf 49 = .ok (.ifCond .ne 8, 3) := by decide +kernel
theorem dX12_rowOf_52 : decode cX12_rowOf 52 = .ok (.iload 6, 2) := by decide +kernel
theorem dX12_rowOf_54 : decode cX12_rowOf 54 = .ok (.ifCond .le 28, 3) := by decide +kernel
theorem dX12_rowOf_57 : decode cX12_rowOf 57 = .ok (.iload 6, 2) := by decide +kernel
theorem dX12_rowOf_59 : decode cX12_rowOf 59 = .ok (.iload_n 2, 1) := by decide +kernel
theorem dX12_rowOf_60 : decode cX12_rowOf 60 = .ok (.iload 7, 2) := by decide +kernel
theorem dX12_rowOf_62 : decode cX12_rowOf 62 = .ok (.invokestatic 295, 3) := by decide +kernel
theorem dX12_rowOf_65 : decode cX12_rowOf 65 = .ok (.ifCond .eq 7, 3) := by decide +kernel
theorem dX12_rowOf_68 : decode cX12_rowOf 68 = .ok (.iconst 0, 1) := by decide +kernel
theorem dX12_rowOf_69 : decode cX12_rowOf 69 = .ok (.goto 4, 3) := by decide +kernel
theorem dX12_rowOf_72 : decode cX12_rowOf 72 = .ok (.iconst 1, 1) := by decide +kernel
theorem dX12_rowOf_73 : decode cX12_rowOf 73 = .ok (.isub, 1) := by decide +kernel
theorem dX12_rowOf_74 : decode cX12_rowOf 74 = .ok (.istore 6, 2) := by decide +kernel
theorem dX12_rowOf_76 : decode cX12_rowOf 76 = .ok (.iinc 7 1, 3) := by decide +kernel
theorem dX12_rowOf_79 : decode cX12_rowOf 79 = .ok (.goto (-36), 3) := by decide +kernel
theorem dX12_rowOf_82 : decode cX12_rowOf 82 = .ok (.aload_n 0, 1) := by decide +kernel
theorem dX12_rowOf_83 : decode cX12_rowOf 83 = .ok (.getfield 52, 3) := by decide +kernel
theorem dX12_rowOf_86 : decode cX12_rowOf 86 = .ok (.iload 4, 2) := by decide +kernel
theorem dX12_rowOf_88 : decode cX12_rowOf 88 = .ok (.iload 7, 2) := by decide +kernel
theorem dX12_rowOf_90 : decode cX12_rowOf 90 = .ok (.iastore, 1) := by decide +kernel
theorem dX12_rowOf_91 : decode cX12_rowOf 91 = .ok (.iload_n 2, 1) := by decide +kernel
theorem dX12_rowOf_92 : decode cX12_rowOf 92 = .ok (.iconst 1, 1) := by decide +kernel
theorem dX12_rowOf_93 : decode cX12_rowOf 93 = .ok (.iload 7, 2) := by decide +kernel
theorem dX12_rowOf_95 : decode cX12_rowOf 95 = .ok (.ishl, 1) := by decide +kernel
theorem dX12_rowOf_96 : decode cX12_rowOf 96 = .ok (.ior, 1) := by decide +kernel
theorem dX12_rowOf_97 : decode cX12_rowOf 97 = .ok (.istore_n 2, 1) := by decide +kernel
theorem dX12_rowOf_98 : decode cX12_rowOf 98 = .ok (.iload_n 3, 1) := by decide +kernel
theorem dX12_rowOf_99 : decode cX12_rowOf 99 = .ok (.iload 5, 2) := by decide +kernel
theorem dX12_rowOf_101 : decode cX12_rowOf 101 = .ok (.irem, 1) := by decide +kernel
theorem dX12_rowOf_102 : decode cX12_rowOf 102 = .ok (.istore_n 3, 1) := by decide +kernel
theorem dX12_rowOf_103 : decode cX12_rowOf 103 = .ok (.iinc 4 1, 3) := by decide +kernel
theorem dX12_rowOf_106 : decode cX12_rowOf 106 = .ok (.goto (-99), 3) := by decide +kernel
theorem dX12_rowOf_109 : decode cX12_rowOf 109 = .ok (.return_, 1) := by decide +kernel
def m_rowOf_L43 (N : Nat) (x1 : Int) (x2 : Int) (x3 : Int) (M4 : jMem) (h7 : (Int × Int × Int × jMem) → Option (Int × jMem)) (r5 : Int) (h43 : (Int × Int) → Option (Int × jMem)) : Int × Int → Option (Int × jMem)
  | (x8, x9) => (m_isOf N x1 x9 M4).bind fun r10 => jlt (fun (_ : Unit) => (m_isOf N x1 x9 M4).bind fun r11 => (if r11 = 0 then jlt ((w32 (x8 - 1))) fun v12 => h43 (v12, (w32 (x9 + 1))) else jlt ((w32 (x8 - 0))) fun v13 => h43 (v13, (w32 (x9 + 1))))) fun j57 => (if r10 = 0 then (if 0 < x8 then j57 () else jchk (0 ≤ x3 ∧ x3 < 7) <| jlt (up M4 13 x3 x9) fun M15 => jlt ((jor x1 ((jshl 1 x9)))) fun v16 => jchk (r5 ≠ 0) <| jlt ((x2.tmod r5)) fun v18 => h7 (v16, v18, (w32 (x3 + 1)), M15)) else j57 ())
def m_rowOf_L7 (N : Nat)  (h7 : (Int × Int × Int × jMem) → Option (Int × jMem)) : Int × Int × Int × jMem → Option (Int × jMem)
  | (x1, x2, x3, M4) => (if x3 < (M4 10 1) then (m_rowsOf N ((w32 (((w32 (((M4 10 1)) - 1))) - x3))) M4).bind fun r5 => jchk (r5 ≠ 0) <| jlt ((w32 (x2.tdiv r5))) fun v7 => jfix N (m_rowOf_L43 N x1 x2 x3 M4 h7 r5) (v7, 0) else some (0, M4))
def m_rowOf (N : Nat) (a1 : Int) (M : jMem) : Option (Int × jMem) := jfix N (m_rowOf_L7 N) (0, a1, 0, M)
theorem c_m_rowOf {l : Launch} {g : jG} (N : Nat) (a1 : Int) (M : jMem)  : ∀ o, m_rowOf N a1 M = some o → jCt l g jTM yX12_rowOf cX12_rowOf 8 none 3 3 [(2, 0), (0, a1)] M o := by
  refine jMet (own := RX12) (em := id) (L := [(0, 2, 0), (1, 0, a1)]) (by decide +kernel) rfl (Nat.le_of_ble_eq_true rfl) rfl (fun K hR => ?_)
  unfold m_rowOf
  refine z_iconst (pc := 0) hR dX12_rowOf_0 rfl ?_
  refine z_istore_n (pc := 1) hR (lv' := [(2, 0, 0), (0, 2, 0), (1, 0, a1)]) dX12_rowOf_1 rfl (by decide) rfl ?_
  refine z_iload_n (pc := 2) hR 2 dX12_rowOf_2 rfl rfl ?_
  refine z_istore_n (pc := 3) hR (lv' := [(3, 0, a1), (2, 0, 0), (0, 2, 0), (1, 0, a1)]) dX12_rowOf_3 rfl (by decide) rfl ?_
  refine z_iconst (pc := 4) hR dX12_rowOf_4 rfl ?_
  refine z_istore (pc := 5) hR (lv' := [(4, 0, 0), (3, 0, a1), (2, 0, 0), (0, 2, 0), (1, 0, a1)]) dX12_rowOf_5 (by decide) rfl ?_
  refine z_pick (pc := 7) (lv' := [(0, 2, 0), (2, 0, 0), (3, 0, a1), (4, 0, 0)]) hR [3, 2, 1, 0] rfl ?_
  refine z_fix (σ := Int × Int × Int × jMem) (lv := fun s => [(0, 2, 0), (2, 0, s.1), (3, 0, s.2.1), (4, 0, s.2.2.1)]) (st := fun _ => []) (M := fun s => s.2.2.2) (fun h7 hh7 => ?_) N (0, a1, 0, M)
  rintro ⟨x1, x2, x3, M4⟩
  show jZ K id 7 [(0, 2, 0), (2, 0, x1), (3, 0, x2), (4, 0, x3)] [] M4 _
  unfold m_rowOf_L7
  refine z_iload (pc := 7) hR 3 dX12_rowOf_7 rfl ?_
  refine z_aload_n (pc := 9) hR 0 dX12_rowOf_9 rfl rfl ?_
  refine z_getr (pc := 10) hR (c0 := 10) (r := 10) jf_RX12_39 kmo_0 (by decide) rfl rfl dX12_rowOf_10 ?_
  refine z_iconst (pc := 13) hR dX12_rowOf_13 rfl ?_
  refine z_iald (pc := 14) hR (n := 112) kma_10 (by decide) (by decide) dX12_rowOf_14 ?_
  refine z_icmpge (pc := 15) (tgt := 109) hR dX12_rowOf_15 (by decide) ?_ ?_
  · exact z_return (x := 0) (pc := 109) hR rfl rfl dX12_rowOf_109 rfl
  · refine z_aload_n (pc := 18) hR 0 dX12_rowOf_18 rfl rfl ?_
    refine z_getr (pc := 19) hR (c0 := 10) (r := 10) jf_RX12_39 kmo_0 (by decide) rfl rfl dX12_rowOf_19 ?_
    refine z_iconst (pc := 22) hR dX12_rowOf_22 rfl ?_
    refine z_iald (pc := 23) hR (n := 112) kma_10 (by decide) (by decide) dX12_rowOf_23 ?_
    refine z_iconst (pc := 24) hR dX12_rowOf_24 rfl ?_
    refine z_isub (pc := 25) hR dX12_rowOf_25 ?_
    refine z_iload (pc := 26) hR 3 dX12_rowOf_26 rfl ?_
    refine z_isub (pc := 28) hR dX12_rowOf_28 ?_
    refine z_callsp (pc := 29) hR (As := [(0, (w32 (((w32 (((M4 10 1)) - 1))) - x3)))]) (st := []) jm_X12_rowsOf jl_RX12_372 (by decide) (c_m_rowsOf N ((w32 (((w32 (((M4 10 1)) - 1))) - x3))) M4) rfl (by decide) (by decide) rfl (Nat.le_of_ble_eq_true rfl) dX12_rowOf_29 (fun r5 => ?_)
    refine z_istore (pc := 32) hR (lv' := [(5, 0, r5), (0, 2, 0), (2, 0, x1), (3, 0, x2), (4, 0, x3)]) dX12_rowOf_32 (by decide) rfl ?_
    refine z_iload_n (pc := 34) hR 3 dX12_rowOf_34 rfl rfl ?_
    refine z_iload (pc := 35) hR 0 dX12_rowOf_35 rfl ?_
    refine z_chk (fun hc6 => ?_)
    refine z_idiv (pc := 37) hR dX12_rowOf_37 hc6 ?_
    refine z_let1 (fun v7 => ?_)
    refine z_istore (pc := 38) hR (lv' := [(6, 0, v7), (5, 0, r5), (0, 2, 0), (2, 0, x1), (3, 0, x2), (4, 0, x3)]) dX12_rowOf_38 (by decide) rfl ?_
    refine z_iconst (pc := 40) hR dX12_rowOf_40 rfl ?_
    refine z_istore (pc := 41) hR (lv' := [(7, 0, 0), (6, 0, v7), (5, 0, r5), (0, 2, 0), (2, 0, x1), (3, 0, x2), (4, 0, x3)]) dX12_rowOf_41 (by decide) rfl ?_
    refine z_pick (pc := 43) (lv' := [(0, 2, 0), (2, 0, x1), (3, 0, x2), (4, 0, x3), (5, 0, r5), (6, 0, v7), (7, 0, 0)]) hR [3, 4, 5, 6, 2, 1, 0] rfl ?_
    refine z_fix (σ := Int × Int) (lv := fun s => [(0, 2, 0), (2, 0, x1), (3, 0, x2), (4, 0, x3), (5, 0, r5), (6, 0, s.1), (7, 0, s.2)]) (st := fun _ => []) (M := fun _ => M4) (fun h43 hh43 => ?_) N (v7, 0)
    rintro ⟨x8, x9⟩
    show jZ K id 43 [(0, 2, 0), (2, 0, x1), (3, 0, x2), (4, 0, x3), (5, 0, r5), (6, 0, x8), (7, 0, x9)] [] M4 _
    unfold m_rowOf_L43
    refine z_iload_n (pc := 43) hR 1 dX12_rowOf_43 rfl rfl ?_
    refine z_iload (pc := 44) hR 6 dX12_rowOf_44 rfl ?_
    refine z_callsp (pc := 46) hR (As := [(0, x1), (0, x9)]) (st := []) jm_X12_isOf jl_RX12_295 (by decide) (c_m_isOf N x1 x9 M4) rfl (by decide) (by decide) rfl (Nat.le_of_ble_eq_true rfl) dX12_rowOf_46 (fun r10 => ?_)
    refine z_join (P := fun j => ∀ (_ : Unit), jZ K id 57 [(0, 2, 0), (2, 0, x1), (3, 0, x2), (4, 0, x3), (5, 0, r5), (6, 0, x8), (7, 0, x9)] [] M4 (j ())) (fun _ => ?_) (fun j57 hj57 => ?_)
    · refine z_iload (pc := 57) hR 5 dX12_rowOf_57 rfl ?_
      refine z_iload_n (pc := 59) hR 1 dX12_rowOf_59 rfl rfl ?_
      refine z_iload (pc := 60) hR 6 dX12_rowOf_60 rfl ?_
      refine z_callsp (pc := 62) hR (As := [(0, x1), (0, x9)]) (st := [(0, x8)]) jm_X12_isOf jl_RX12_295 (by decide) (c_m_isOf N x1 x9 M4) rfl (by decide) (by decide) rfl (Nat.le_of_ble_eq_true rfl) dX12_rowOf_62 (fun r11 => ?_)
      refine z_ifeq (pc := 65) (tgt := 72) hR dX12_rowOf_65 (by decide) ?_ ?_
      · refine z_iconst (pc := 72) hR dX12_rowOf_72 rfl ?_
        refine z_isub (pc := 73) hR dX12_rowOf_73 ?_
        refine z_let1 (fun v12 => ?_)
        refine z_istore (pc := 74) hR (lv' := [(6, 0, v12), (0, 2, 0), (2, 0, x1), (3, 0, x2), (4, 0, x3), (5, 0, r5), (7, 0, x9)]) dX12_rowOf_74 (by decide) rfl ?_
        refine z_iinc (pc := 76) hR (j := 6) (lv' := [(7, 0, (w32 (x9 + 1))), (6, 0, v12), (0, 2, 0), (2, 0, x1), (3, 0, x2), (4, 0, x3), (5, 0, r5)]) dX12_rowOf_76 rfl (by decide) rfl ?_
        refine z_goto (pc := 79) (tgt := 43) hR dX12_rowOf_79 (by decide) ?_
        refine z_pick (pc := 43) (lv' := [(0, 2, 0), (2, 0, x1), (3, 0, x2), (4, 0, x3), (5, 0, r5), (6, 0, v12), (7, 0, (w32 (x9 + 1)))]) hR [2, 3, 4, 5, 6, 1, 0] rfl ?_
        exact hh43 (v12, (w32 (x9 + 1)))
      · refine z_iconst (pc := 68) hR dX12_rowOf_68 rfl ?_
        refine z_goto (pc := 69) (tgt := 73) hR dX12_rowOf_69 (by decide) ?_
        refine z_isub (pc := 73) hR dX12_rowOf_73 ?_
        refine z_let1 (fun v13 => ?_)
        refine z_istore (pc := 74) hR (lv' := [(6, 0, v13), (0, 2, 0), (2, 0, x1), (3, 0, x2), (4, 0, x3), (5, 0, r5), (7, 0, x9)]) dX12_rowOf_74 (by decide) rfl ?_
        refine z_iinc (pc := 76) hR (j := 6) (lv' := [(7, 0, (w32 (x9 + 1))), (6, 0, v13), (0, 2, 0), (2, 0, x1), (3, 0, x2), (4, 0, x3), (5, 0, r5)]) dX12_rowOf_76 rfl (by decide) rfl ?_
        refine z_goto (pc := 79) (tgt := 43) hR dX12_rowOf_79 (by decide) ?_
        refine z_pick (pc := 43) (lv' := [(0, 2, 0), (2, 0, x1), (3, 0, x2), (4, 0, x3), (5, 0, r5), (6, 0, v13), (7, 0, (w32 (x9 + 1)))]) hR [2, 3, 4, 5, 6, 1, 0] rfl ?_
        exact hh43 (v13, (w32 (x9 + 1)))
    refine z_ifne (pc := 49) (tgt := 57) hR dX12_rowOf_49 (by decide) ?_ ?_
    · exact hj57 ()
    · refine z_iload (pc := 52) hR 5 dX12_rowOf_52 rfl ?_
      refine z_ifle (pc := 54) (tgt := 82) hR dX12_rowOf_54 (by decide) ?_ ?_
      · refine z_aload_n (pc := 82) hR 0 dX12_rowOf_82 rfl rfl ?_
        refine z_getr (pc := 83) hR (c0 := 13) (r := 13) jf_RX12_52 kmo_0 (by decide) rfl rfl dX12_rowOf_83 ?_
        refine z_iload (pc := 86) hR 3 dX12_rowOf_86 rfl ?_
        refine z_iload (pc := 88) hR 6 dX12_rowOf_88 rfl ?_
        refine z_chk (fun hc14 => ?_)
        refine z_iast (pc := 90) hR (n := 7) kma_13 hc14.1 hc14.2 dX12_rowOf_90 (fun M15 => ?_)
        refine z_iload_n (pc := 91) hR 1 dX12_rowOf_91 rfl rfl ?_
        refine z_iconst (pc := 92) hR dX12_rowOf_92 rfl ?_
        refine z_iload (pc := 93) hR 6 dX12_rowOf_93 rfl ?_
        refine z_ishl (pc := 95) hR dX12_rowOf_95 ?_
        refine z_ior (pc := 96) hR dX12_rowOf_96 ?_
        refine z_let1 (fun v16 => ?_)
        refine z_istore_n (pc := 97) hR (lv' := [(2, 0, v16), (0, 2, 0), (3, 0, x2), (4, 0, x3), (5, 0, r5), (6, 0, x8), (7, 0, x9)]) dX12_rowOf_97 rfl (by decide) rfl ?_
        refine z_iload_n (pc := 98) hR 2 dX12_rowOf_98 rfl rfl ?_
        refine z_iload (pc := 99) hR 4 dX12_rowOf_99 rfl ?_
        refine z_chk (fun hc17 => ?_)
        refine z_irem (pc := 101) hR dX12_rowOf_101 hc17 ?_
        refine z_let1 (fun v18 => ?_)
        refine z_istore_n (pc := 102) hR (lv' := [(3, 0, v18), (2, 0, v16), (0, 2, 0), (4, 0, x3), (5, 0, r5), (6, 0, x8), (7, 0, x9)]) dX12_rowOf_102 rfl (by decide) rfl ?_
        refine z_iinc (pc := 103) hR (j := 3) (lv' := [(4, 0, (w32 (x3 + 1))), (3, 0, v18), (2, 0, v16), (0, 2, 0), (5, 0, r5), (6, 0, x8), (7, 0, x9)]) dX12_rowOf_103 rfl (by decide) rfl ?_
        refine z_goto (pc := 106) (tgt := 7) hR dX12_rowOf_106 (by decide) ?_
        refine z_pick (pc := 7) (lv' := [(0, 2, 0), (2, 0, v16), (3, 0, v18), (4, 0, (w32 (x3 + 1)))]) hR [3, 2, 1, 0] rfl ?_
        exact hh7 (v16, v18, (w32 (x3 + 1)), M15)
      · exact hj57 ()
theorem dX12_rankNow_0 : decode cX12_rankNow 0 = .ok (.iconst 0, 1) := by decide +kernel
theorem dX12_rankNow_1 : decode cX12_rankNow 1 = .ok (.istore_n 1, 1) := by decide +kernel
theorem dX12_rankNow_2 : decode cX12_rankNow 2 = .ok (.iload_n 1, 1) := by decide +kernel
theorem dX12_rankNow_3 : decode cX12_rankNow 3 = .ok (.aload_n 0, 1) := by decide +kernel
theorem dX12_rankNow_4 : decode cX12_rankNow 4 = .ok (.getfield 39, 3) := by decide +kernel
theorem dX12_rankNow_7 : decode cX12_rankNow 7 = .ok (.iconst 1, 1) := by decide +kernel
theorem dX12_rankNow_8 : decode cX12_rankNow 8 = .ok (.iaload, 1) := by decide +kernel
theorem dX12_rankNow_9 : decode cX12_rankNow 9 = .ok (.if_icmp .ge 24, 3) := by decide +kernel
theorem dX12_rankNow_12 : decode cX12_rankNow 12 = .ok (.aload_n 0, 1) := by decide +kernel
theorem dX12_rankNow_13 : decode cX12_rankNow 13 = .ok (.getfield 52, 3) := by decide +kernel
theorem dX12_rankNow_16 : decode cX12_rankNow 16 = .ok (.iload_n 1, 1) := by decide +kernel
theorem dX12_rankNow_17 : decode cX12_rankNow 17 = .ok (.aload_n 0, 1) := by decide +kernel
theorem dX12_rankNow_18 : decode cX12_rankNow 18 = .ok (.getfield 39, 3) := by decide +kernel
theorem dX12_rankNow_21 : decode cX12_rankNow 21 = .ok (.bipush 32, 2) := by decide +kernel
theorem dX12_rankNow_23 : decode cX12_rankNow 23 = .ok (.iload_n 1, 1) := by decide +kernel
theorem dX12_rankNow_24 : decode cX12_rankNow 24 = .ok (.iadd, 1) := by decide +kernel
theorem dX12_rankNow_25 : decode cX12_rankNow 25 = .ok (.iaload, 1) := by decide +kernel
theorem dX12_rankNow_26 : decode cX12_rankNow 26 = .ok (.iastore, 1) := by decide +kernel
theorem dX12_rankNow_27 : decode cX12_rankNow 27 = .ok (.iinc 1 1, 3) := by decide +kernel
theorem dX12_rankNow_30 : decode cX12_rankNow 30 = .ok (.goto (-28), 3) := by decide +kernel
theorem dX12_rankNow_33 : decode cX12_rankNow 33 = .ok (.aload_n 0, 1) := by decide +kernel
theorem dX12_rankNow_34 : decode cX12_rankNow 34 = .ok (.aload_n 0, 1) := by decide +kernel
theorem dX12_rankNow_35 : decode cX12_rankNow 35 = .ok (.getfield 52, 3) := by decide +kernel
theorem dX12_rankNow_38 : decode cX12_rankNow 38 = .ok (.invokevirtual 375, 3) := by decide +kernel
theorem dX12_rankNow_41 : decode cX12_rankNow 41 = .ok (.ireturn, 1) := by decide +kernel
def m_rankNow_L2 (N : Nat)  (h2 : (Int × jMem) → Option (Int × jMem)) : Int × jMem → Option (Int × jMem)
  | (x1, M2) => (if x1 < (M2 10 1) then jchk (0 ≤ (w32 (32 + x1)) ∧ (w32 (32 + x1)) < 112) <| jchk (0 ≤ x1 ∧ x1 < 7) <| jlt (up M2 13 x1 ((M2 10 ((w32 (32 + x1)))))) fun M6 => h2 ((w32 (x1 + 1)), M6) else (m_rankOf N 13 M2).bind fun r3 => some (r3, M2))
def m_rankNow (N : Nat) (M : jMem) : Option (Int × jMem) := jfix N (m_rankNow_L2 N) (0, M)
theorem c_m_rankNow {l : Launch} {g : jG} (N : Nat) (M : jMem)  : ∀ o, m_rankNow N  M = some o → jCt l g jTM yX12_rankNow cX12_rankNow 2 (some .int) 0 5 [(2, 0)] M o := by
  refine jMet (own := RX12) (em := id) (L := [(0, 2, 0)]) (by decide +kernel) rfl (Nat.le_of_ble_eq_true rfl) rfl (fun K hR => ?_)
  unfold m_rankNow
  refine z_iconst (pc := 0) hR dX12_rankNow_0 rfl ?_
  refine z_istore_n (pc := 1) hR (lv' := [(1, 0, 0), (0, 2, 0)]) dX12_rankNow_1 rfl (by decide) rfl ?_
  refine z_pick (pc := 2) (lv' := [(0, 2, 0), (1, 0, 0)]) hR [1, 0] rfl ?_
  refine z_fix (σ := Int × jMem) (lv := fun s => [(0, 2, 0), (1, 0, s.1)]) (st := fun _ => []) (M := fun s => s.2) (fun h2 hh2 => ?_) N (0, M)
  rintro ⟨x1, M2⟩
  show jZ K id 2 [(0, 2, 0), (1, 0, x1)] [] M2 _
  unfold m_rankNow_L2
  refine z_iload_n (pc := 2) hR 1 dX12_rankNow_2 rfl rfl ?_
  refine z_aload_n (pc := 3) hR 0 dX12_rankNow_3 rfl rfl ?_
  refine z_getr (pc := 4) hR (c0 := 10) (r := 10) jf_RX12_39 kmo_0 (by decide) rfl rfl dX12_rankNow_4 ?_
  refine z_iconst (pc := 7) hR dX12_rankNow_7 rfl ?_
  refine z_iald (pc := 8) hR (n := 112) kma_10 (by decide) (by decide) dX12_rankNow_8 ?_
  refine z_icmpge (pc := 9) (tgt := 33) hR dX12_rankNow_9 (by decide) ?_ ?_
  · refine z_aload_n (pc := 33) hR 0 dX12_rankNow_33 rfl rfl ?_
    refine z_aload_n (pc := 34) hR 0 dX12_rankNow_34 rfl rfl ?_
    refine z_getr (pc := 35) hR (c0 := 13) (r := 13) jf_RX12_52 kmo_0 (by decide) rfl rfl dX12_rankNow_35 ?_
    refine z_callvp (pc := 38) hR (As := [(2, 13)]) (st := []) jm_X12_rankOf jl_RX12_375 kmo_0 (by decide) rfl (by decide) (c_m_rankOf N 13 M2 kma_13) rfl (by decide) (by decide) rfl (Nat.le_of_ble_eq_true rfl) dX12_rankNow_38 (fun r3 => ?_)
    exact z_ireturn (pc := 41) hR rfl rfl dX12_rankNow_41 rfl
  · refine z_aload_n (pc := 12) hR 0 dX12_rankNow_12 rfl rfl ?_
    refine z_getr (pc := 13) hR (c0 := 13) (r := 13) jf_RX12_52 kmo_0 (by decide) rfl rfl dX12_rankNow_13 ?_
    refine z_iload_n (pc := 16) hR 1 dX12_rankNow_16 rfl rfl ?_
    refine z_aload_n (pc := 17) hR 0 dX12_rankNow_17 rfl rfl ?_
    refine z_getr (pc := 18) hR (c0 := 10) (r := 10) jf_RX12_39 kmo_0 (by decide) rfl rfl dX12_rankNow_18 ?_
    refine z_bipush (pc := 21) hR dX12_rankNow_21 rfl ?_
    refine z_iload_n (pc := 23) hR 1 dX12_rankNow_23 rfl rfl ?_
    refine z_iadd (pc := 24) hR dX12_rankNow_24 ?_
    refine z_chk (fun hc4 => ?_)
    refine z_iald (pc := 25) hR (n := 112) kma_10 hc4.1 hc4.2 dX12_rankNow_25 ?_
    refine z_chk (fun hc5 => ?_)
    refine z_iast (pc := 26) hR (n := 7) kma_13 hc5.1 hc5.2 dX12_rankNow_26 (fun M6 => ?_)
    refine z_iinc (pc := 27) hR (j := 1) (lv' := [(1, 0, (w32 (x1 + 1))), (0, 2, 0)]) dX12_rankNow_27 rfl (by decide) rfl ?_
    refine z_goto (pc := 30) (tgt := 2) hR dX12_rankNow_30 (by decide) ?_
    refine z_pick (pc := 2) (lv' := [(0, 2, 0), (1, 0, (w32 (x1 + 1)))]) hR [1, 0] rfl ?_
    exact hh2 ((w32 (x1 + 1)), M6)
theorem dX12_lieOf_0 : decode cX12_lieOf 0 = .ok (.aload_n 0, 1) := by decide +kernel
theorem dX12_lieOf_1 : decode cX12_lieOf 1 = .ok (.iload_n 1, 1) := by decide +kernel
theorem dX12_lieOf_2 : decode cX12_lieOf 2 = .ok (.invokevirtual 379, 3) := by decide +kernel
theorem dX12_lieOf_5 : decode cX12_lieOf 5 = .ok (.iconst 0, 1) := by decide +kernel
theorem dX12_lieOf_6 : decode cX12_lieOf 6 = .ok (.istore_n 2, 1) := by decide +kernel
theorem dX12_lieOf_7 : decode cX12_lieOf 7 = .ok (.iconst 0, 1) := by decide +kernel
theorem dX12_lieOf_8 : decode cX12_lieOf 8 = .ok (.istore_n 3, 1) := by decide +kernel
theorem dX12_lieOf_9 : decode cX12_lieOf 9 = .ok (.iload_n 3, 1) := by decide +kernel
theorem dX12_lieOf_10 : decode cX12_lieOf 10 = .ok (.aload_n 0, 1) := by decide +kernel
theorem dX12_lieOf_11 : decode cX12_lieOf 11 = .ok (.getfield 39, 3) := by decide +kernel
theorem dX12_lieOf_14 : decode cX12_lieOf 14 = .ok (.iconst 1, 1) := by decide +kernel
theorem dX12_lieOf_15 : decode cX12_lieOf 15 = .ok (.iaload, 1) := by decide +kernel
theorem dX12_lieOf_16 : decode cX12_lieOf 16 = .ok (.if_icmp .ge 23, 3) := by decide +kernel
theorem dX12_lieOf_19 : decode cX12_lieOf 19 = .ok (.bipush 10, 2) := by decide +kernel
theorem dX12_lieOf_21 : decode cX12_lieOf 21 = .ok (.iload_n 2, 1) := by decide +kernel
theorem dX12_lieOf_22 : decode cX12_lieOf 22 = .ok (.imul, 1) := by decide +kernel
theorem dX12_lieOf_23 : decode cX12_lieOf 23 = .ok (.aload_n 0, 1) := by decide +kernel
theorem dX12_lieOf_24 : decode cX12_lieOf 24 = .ok (.getfield 52, 3) := by decide +kernel
theorem dX12_lieOf_27 : decode cX12_lieOf 27 = .ok (.iload_n 3, 1) := by decide +kernel
theorem dX12_lieOf_28 : decode cX12_lieOf 28 = .ok (.iaload, 1) := by decide +kernel
theorem dX12_lieOf_29 : decode cX12_lieOf 29 = .ok (.iadd, 1) := by decide +kernel
theorem dX12_lieOf_30 : decode cX12_lieOf 30 = .ok (.iconst 1, 1) := by decide +kernel
theorem dX12_lieOf_31 : decode cX12_lieOf 31 = .ok (.iadd, 1) := by decide +kernel
theorem dX12_lieOf_32 : decode cX12_lieOf 32 = .ok (.istore_n 2, 1) := by decide +kernel
theorem dX12_lieOf_33 : decode cX12_lieOf 33 = .ok (.iinc 3 1, 3) := by decide +kernel
theorem dX12_lieOf_36 : decode cX12_lieOf 36 = .ok (.goto (-27), 3) := by decide +kernel
theorem dX12_lieOf_39 : decode cX12_lieOf 39 = .ok (.iload_n 2, 1) := by decide +kernel
theorem dX12_lieOf_40 : decode cX12_lieOf 40 = .ok (.ireturn, 1) := by decide +kernel
def m_lieOf_L9 (N : Nat) (M1 : jMem) (h9 : (Int × Int) → Option (Int × jMem)) : Int × Int → Option (Int × jMem)
  | (x2, x3) => (if x3 < (M1 10 1) then jchk (0 ≤ x3 ∧ x3 < 7) <| jlt ((w32 (((w32 (((w32 (10 * x2))) + ((M1 13 x3))))) + 1))) fun v5 => h9 (v5, (w32 (x3 + 1))) else some (x2, M1))
def m_lieOf (N : Nat) (a1 : Int) (M : jMem) : Option (Int × jMem) := jbv (m_rowOf N a1 M) fun M1 => jfix N (m_lieOf_L9 N M1) (0, 0)
theorem c_m_lieOf {l : Launch} {g : jG} (N : Nat) (a1 : Int) (M : jMem)  : ∀ o, m_lieOf N a1 M = some o → jCt l g jTM yX12_lieOf cX12_lieOf 4 (some .int) 0 5 [(2, 0), (0, a1)] M o := by
  refine jMet (own := RX12) (em := id) (L := [(0, 2, 0), (1, 0, a1)]) (by decide +kernel) rfl (Nat.le_of_ble_eq_true rfl) rfl (fun K hR => ?_)
  unfold m_lieOf
  refine z_aload_n (pc := 0) hR 0 dX12_lieOf_0 rfl rfl ?_
  refine z_iload_n (pc := 1) hR 1 dX12_lieOf_1 rfl rfl ?_
  refine z_callv0 (pc := 2) (rk' := 3) hR (As := [(0, a1)]) (st := []) jm_X12_rowOf jl_RX12_379 kmo_0 (by decide) rfl (c_m_rowOf N a1 M) rfl (by decide) (by decide) rfl (Nat.le_of_ble_eq_true rfl) dX12_lieOf_2 (fun M1 => ?_)
  refine z_iconst (pc := 5) hR dX12_lieOf_5 rfl ?_
  refine z_istore_n (pc := 6) hR (lv' := [(2, 0, 0), (0, 2, 0), (1, 0, a1)]) dX12_lieOf_6 rfl (by decide) rfl ?_
  refine z_iconst (pc := 7) hR dX12_lieOf_7 rfl ?_
  refine z_istore_n (pc := 8) hR (lv' := [(3, 0, 0), (2, 0, 0), (0, 2, 0), (1, 0, a1)]) dX12_lieOf_8 rfl (by decide) rfl ?_
  refine z_pick (pc := 9) (lv' := [(0, 2, 0), (2, 0, 0), (3, 0, 0)]) hR [2, 1, 0] rfl ?_
  refine z_fix (σ := Int × Int) (lv := fun s => [(0, 2, 0), (2, 0, s.1), (3, 0, s.2)]) (st := fun _ => []) (M := fun _ => M1) (fun h9 hh9 => ?_) N (0, 0)
  rintro ⟨x2, x3⟩
  show jZ K id 9 [(0, 2, 0), (2, 0, x2), (3, 0, x3)] [] M1 _
  unfold m_lieOf_L9
  refine z_iload_n (pc := 9) hR 2 dX12_lieOf_9 rfl rfl ?_
  refine z_aload_n (pc := 10) hR 0 dX12_lieOf_10 rfl rfl ?_
  refine z_getr (pc := 11) hR (c0 := 10) (r := 10) jf_RX12_39 kmo_0 (by decide) rfl rfl dX12_lieOf_11 ?_
  refine z_iconst (pc := 14) hR dX12_lieOf_14 rfl ?_
  refine z_iald (pc := 15) hR (n := 112) kma_10 (by decide) (by decide) dX12_lieOf_15 ?_
  refine z_icmpge (pc := 16) (tgt := 39) hR dX12_lieOf_16 (by decide) ?_ ?_
  · refine z_iload_n (pc := 39) hR 1 dX12_lieOf_39 rfl rfl ?_
    exact z_ireturn (pc := 40) hR rfl rfl dX12_lieOf_40 rfl
  · refine z_bipush (pc := 19) hR dX12_lieOf_19 rfl ?_
    refine z_iload_n (pc := 21) hR 1 dX12_lieOf_21 rfl rfl ?_
    refine z_imul (pc := 22) hR dX12_lieOf_22 ?_
    refine z_aload_n (pc := 23) hR 0 dX12_lieOf_23 rfl rfl ?_
    refine z_getr (pc := 24) hR (c0 := 13) (r := 13) jf_RX12_52 kmo_0 (by decide) rfl rfl dX12_lieOf_24 ?_
    refine z_iload_n (pc := 27) hR 2 dX12_lieOf_27 rfl rfl ?_
    refine z_chk (fun hc4 => ?_)
    refine z_iald (pc := 28) hR (n := 7) kma_13 hc4.1 hc4.2 dX12_lieOf_28 ?_
    refine z_iadd (pc := 29) hR dX12_lieOf_29 ?_
    refine z_iconst (pc := 30) hR dX12_lieOf_30 rfl ?_
    refine z_iadd (pc := 31) hR dX12_lieOf_31 ?_
    refine z_let1 (fun v5 => ?_)
    refine z_istore_n (pc := 32) hR (lv' := [(2, 0, v5), (0, 2, 0), (3, 0, x3)]) dX12_lieOf_32 rfl (by decide) rfl ?_
    refine z_iinc (pc := 33) hR (j := 2) (lv' := [(3, 0, (w32 (x3 + 1))), (2, 0, v5), (0, 2, 0)]) dX12_lieOf_33 rfl (by decide) rfl ?_
    refine z_goto (pc := 36) (tgt := 9) hR dX12_lieOf_36 (by decide) ?_
    refine z_pick (pc := 9) (lv' := [(0, 2, 0), (2, 0, v5), (3, 0, (w32 (x3 + 1)))]) hR [2, 1, 0] rfl ?_
    exact hh9 (v5, (w32 (x3 + 1)))
theorem dX12_rankBy_0 : decode cX12_rankBy 0 = .ok (.iconst 0, 1) := by decide +kernel
theorem dX12_rankBy_1 : decode cX12_rankBy 1 = .ok (.istore_n 3, 1) := by decide +kernel
theorem dX12_rankBy_2 : decode cX12_rankBy 2 = .ok (.iload_n 3, 1) := by decide +kernel
theorem dX12_rankBy_3 : decode cX12_rankBy 3 = .ok (.aload_n 0, 1) := by decide +kernel
theorem dX12_rankBy_4 : decode cX12_rankBy 4 = .ok (.getfield 39, 3) := by decide +kernel
theorem dX12_rankBy_7 : decode cX12_rankBy 7 = .ok (.iconst 1, 1) := by decide +kernel
theorem dX12_rankBy_8 : decode cX12_rankBy 8 = .ok (.iaload, 1) := by decide +kernel
theorem dX12_rankBy_9 : decode cX12_rankBy 9 = .ok (.if_icmp .ge 21, 3) := by decide +kernel
theorem dX12_rankBy_12 : decode cX12_rankBy 12 = .ok (.aload_n 0, 1) := by decide +kernel
theorem dX12_rankBy_13 : decode cX12_rankBy 13 = .ok (.getfield 55, 3) := by decide +kernel
theorem dX12_rankBy_16 : decode cX12_rankBy 16 = .ok (.iload_n 3, 1) := by decide +kernel
theorem dX12_rankBy_17 : decode cX12_rankBy 17 = .ok (.aload_n 0, 1) := by decide +kernel
theorem dX12_rankBy_18 : decode cX12_rankBy 18 = .ok (.getfield 52, 3) := by decide +kernel
theorem dX12_rankBy_21 : decode cX12_rankBy 21 = .ok (.iload_n 3, 1) := by decide +kernel
theorem dX12_rankBy_22 : decode cX12_rankBy 22 = .ok (.iaload, 1) := by decide +kernel
theorem dX12_rankBy_23 : decode cX12_rankBy 23 = .ok (.iastore, 1) := by decide +kernel
theorem dX12_rankBy_24 : decode cX12_rankBy 24 = .ok (.iinc 3 1, 3) := by decide +kernel
theorem dX12_rankBy_27 : decode cX12_rankBy 27 = .ok (.goto (-25), 3) := by decide +kernel
theorem dX12_rankBy_30 : decode cX12_rankBy 30 = .ok (.aload_n 0, 1) := by decide +kernel
theorem dX12_rankBy_31 : decode cX12_rankBy 31 = .ok (.getfield 55, 3) := by decide +kernel
theorem dX12_rankBy_34 : decode cX12_rankBy 34 = .ok (.iload_n 1, 1) := by decide +kernel
theorem dX12_rankBy_35 : decode cX12_rankBy 35 = .ok (.aload_n 0, 1) := by decide +kernel
theorem dX12_rankBy_36 : decode cX12_rankBy 36 = .ok (.getfield 52, 3) := by decide +kernel
theorem dX12_rankBy_39 : decode cX12_rankBy 39 = .ok (.iload_n 2, 1) := by decide +kernel
theorem dX12_rankBy_40 : decode cX12_rankBy 40 = .ok (.iaload, 1) := by decide +kernel
theorem dX12_rankBy_41 : decode cX12_rankBy 41 = .ok (.iastore, 1) := by decide +kernel
theorem dX12_rankBy_42 : decode cX12_rankBy 42 = .ok (.aload_n 0, 1) := by decide +kernel
theorem dX12_rankBy_43 : decode cX12_rankBy 43 = .ok (.getfield 55, 3) := by decide +kernel
theorem dX12_rankBy_46 : decode cX12_rankBy 46 = .ok (.iload_n 2, 1) := by decide +kernel
theorem dX12_rankBy_47 : decode cX12_rankBy 47 = .ok (.aload_n 0, 1) := by decide +kernel
theorem dX12_rankBy_48 : decode cX12_rankBy 48 = .ok (.getfield 52, 3) := by decide +kernel
theorem dX12_rankBy_51 : decode cX12_rankBy 51 = .ok (.iload_n 1, 1) := by decide +kernel
theorem dX12_rankBy_52 : decode cX12_rankBy 52 = .ok (.iaload, 1) := by decide +kernel
theorem dX12_rankBy_53 : decode cX12_rankBy 53 = .ok (.iastore, 1) := by decide +kernel
theorem dX12_rankBy_54 : decode cX12_rankBy 54 = .ok (.aload_n 0, 1) := by decide +kernel
theorem dX12_rankBy_55 : decode cX12_rankBy 55 = .ok (.aload_n 0, 1) := by decide +kernel
theorem dX12_rankBy_56 : decode cX12_rankBy 56 = .ok (.getfield 55, 3) := by decide +kernel
theorem dX12_rankBy_59 : decode cX12_rankBy 59 = .ok (.invokevirtual 375, 3) := by decide +kernel
theorem dX12_rankBy_62 : decode cX12_rankBy 62 = .ok (.ireturn, 1) := by decide +kernel
def m_rankBy_L2 (N : Nat) (a1 : Int) (a2 : Int) (h2 : (Int × jMem) → Option (Int × jMem)) : Int × jMem → Option (Int × jMem)
  | (x1, M2) => (if x1 < (M2 10 1) then jchk (0 ≤ x1 ∧ x1 < 7) <| jchk (0 ≤ x1 ∧ x1 < 7) <| jlt (up M2 14 x1 ((M2 13 x1))) fun M12 => h2 ((w32 (x1 + 1)), M12) else jchk (0 ≤ a2 ∧ a2 < 7) <| jchk (0 ≤ a1 ∧ a1 < 7) <| jlt (up M2 14 a1 ((M2 13 a2))) fun M5 => jchk (0 ≤ a1 ∧ a1 < 7) <| jchk (0 ≤ a2 ∧ a2 < 7) <| jlt (up M5 14 a2 ((M5 13 a1))) fun M8 => (m_rankOf N 14 M8).bind fun r9 => some (r9, M8))
def m_rankBy (N : Nat) (a1 a2 : Int) (M : jMem) : Option (Int × jMem) := jfix N (m_rankBy_L2 N a1 a2) (0, M)
theorem c_m_rankBy {l : Launch} {g : jG} (N : Nat) (a1 a2 : Int) (M : jMem)  : ∀ o, m_rankBy N a1 a2 M = some o → jCt l g jTM yX12_rankBy cX12_rankBy 4 (some .int) 0 5 [(2, 0), (0, a1), (0, a2)] M o := by
  refine jMet (own := RX12) (em := id) (L := [(0, 2, 0), (1, 0, a1), (2, 0, a2)]) (by decide +kernel) rfl (Nat.le_of_ble_eq_true rfl) rfl (fun K hR => ?_)
  unfold m_rankBy
  refine z_iconst (pc := 0) hR dX12_rankBy_0 rfl ?_
  refine z_istore_n (pc := 1) hR (lv' := [(3, 0, 0), (0, 2, 0), (1, 0, a1), (2, 0, a2)]) dX12_rankBy_1 rfl (by decide) rfl ?_
  refine z_pick (pc := 2) (lv' := [(0, 2, 0), (1, 0, a1), (2, 0, a2), (3, 0, 0)]) hR [1, 2, 3, 0] rfl ?_
  refine z_fix (σ := Int × jMem) (lv := fun s => [(0, 2, 0), (1, 0, a1), (2, 0, a2), (3, 0, s.1)]) (st := fun _ => []) (M := fun s => s.2) (fun h2 hh2 => ?_) N (0, M)
  rintro ⟨x1, M2⟩
  show jZ K id 2 [(0, 2, 0), (1, 0, a1), (2, 0, a2), (3, 0, x1)] [] M2 _
  unfold m_rankBy_L2
  refine z_iload_n (pc := 2) hR 3 dX12_rankBy_2 rfl rfl ?_
  refine z_aload_n (pc := 3) hR 0 dX12_rankBy_3 rfl rfl ?_
  refine z_getr (pc := 4) hR (c0 := 10) (r := 10) jf_RX12_39 kmo_0 (by decide) rfl rfl dX12_rankBy_4 ?_
  refine z_iconst (pc := 7) hR dX12_rankBy_7 rfl ?_
  refine z_iald (pc := 8) hR (n := 112) kma_10 (by decide) (by decide) dX12_rankBy_8 ?_
  refine z_icmpge (pc := 9) (tgt := 30) hR dX12_rankBy_9 (by decide) ?_ ?_
  · refine z_aload_n (pc := 30) hR 0 dX12_rankBy_30 rfl rfl ?_
    refine z_getr (pc := 31) hR (c0 := 14) (r := 14) jf_RX12_55 kmo_0 (by decide) rfl rfl dX12_rankBy_31 ?_
    refine z_iload_n (pc := 34) hR 1 dX12_rankBy_34 rfl rfl ?_
    refine z_aload_n (pc := 35) hR 0 dX12_rankBy_35 rfl rfl ?_
    refine z_getr (pc := 36) hR (c0 := 13) (r := 13) jf_RX12_52 kmo_0 (by decide) rfl rfl dX12_rankBy_36 ?_
    refine z_iload_n (pc := 39) hR 2 dX12_rankBy_39 rfl rfl ?_
    refine z_chk (fun hc3 => ?_)
    refine z_iald (pc := 40) hR (n := 7) kma_13 hc3.1 hc3.2 dX12_rankBy_40 ?_
    refine z_chk (fun hc4 => ?_)
    refine z_iast (pc := 41) hR (n := 7) kma_14 hc4.1 hc4.2 dX12_rankBy_41 (fun M5 => ?_)
    refine z_aload_n (pc := 42) hR 0 dX12_rankBy_42 rfl rfl ?_
    refine z_getr (pc := 43) hR (c0 := 14) (r := 14) jf_RX12_55 kmo_0 (by decide) rfl rfl dX12_rankBy_43 ?_
    refine z_iload_n (pc := 46) hR 2 dX12_rankBy_46 rfl rfl ?_
    refine z_aload_n (pc := 47) hR 0 dX12_rankBy_47 rfl rfl ?_
    refine z_getr (pc := 48) hR (c0 := 13) (r := 13) jf_RX12_52 kmo_0 (by decide) rfl rfl dX12_rankBy_48 ?_
    refine z_iload_n (pc := 51) hR 1 dX12_rankBy_51 rfl rfl ?_
    refine z_chk (fun hc6 => ?_)
    refine z_iald (pc := 52) hR (n := 7) kma_13 hc6.1 hc6.2 dX12_rankBy_52 ?_
    refine z_chk (fun hc7 => ?_)
    refine z_iast (pc := 53) hR (n := 7) kma_14 hc7.1 hc7.2 dX12_rankBy_53 (fun M8 => ?_)
    refine z_aload_n (pc := 54) hR 0 dX12_rankBy_54 rfl rfl ?_
    refine z_aload_n (pc := 55) hR 0 dX12_rankBy_55 rfl rfl ?_
    refine z_getr (pc := 56) hR (c0 := 14) (r := 14) jf_RX12_55 kmo_0 (by decide) rfl rfl dX12_rankBy_56 ?_
    refine z_callvp (pc := 59) hR (As := [(2, 14)]) (st := []) jm_X12_rankOf jl_RX12_375 kmo_0 (by decide) rfl (by decide) (c_m_rankOf N 14 M8 kma_14) rfl (by decide) (by decide) rfl (Nat.le_of_ble_eq_true rfl) dX12_rankBy_59 (fun r9 => ?_)
    exact z_ireturn (pc := 62) hR rfl rfl dX12_rankBy_62 rfl
  · refine z_aload_n (pc := 12) hR 0 dX12_rankBy_12 rfl rfl ?_
    refine z_getr (pc := 13) hR (c0 := 14) (r := 14) jf_RX12_55 kmo_0 (by decide) rfl rfl dX12_rankBy_13 ?_
    refine z_iload_n (pc := 16) hR 3 dX12_rankBy_16 rfl rfl ?_
    refine z_aload_n (pc := 17) hR 0 dX12_rankBy_17 rfl rfl ?_
    refine z_getr (pc := 18) hR (c0 := 13) (r := 13) jf_RX12_52 kmo_0 (by decide) rfl rfl dX12_rankBy_18 ?_
    refine z_iload_n (pc := 21) hR 3 dX12_rankBy_21 rfl rfl ?_
    refine z_chk (fun hc10 => ?_)
    refine z_iald (pc := 22) hR (n := 7) kma_13 hc10.1 hc10.2 dX12_rankBy_22 ?_
    refine z_chk (fun hc11 => ?_)
    refine z_iast (pc := 23) hR (n := 7) kma_14 hc11.1 hc11.2 dX12_rankBy_23 (fun M12 => ?_)
    refine z_iinc (pc := 24) hR (j := 3) (lv' := [(3, 0, (w32 (x1 + 1))), (0, 2, 0), (1, 0, a1), (2, 0, a2)]) dX12_rankBy_24 rfl (by decide) rfl ?_
    refine z_goto (pc := 27) (tgt := 2) hR dX12_rankBy_27 (by decide) ?_
    refine z_pick (pc := 2) (lv' := [(0, 2, 0), (1, 0, a1), (2, 0, a2), (3, 0, (w32 (x1 + 1)))]) hR [1, 2, 3, 0] rfl ?_
    exact hh2 ((w32 (x1 + 1)), M12)
theorem dX12_comesTo_0 : decode cX12_comesTo 0 = .ok (.aload_n 0, 1) := by decide +kernel
theorem dX12_comesTo_1 : decode cX12_comesTo 1 = .ok (.getfield 58, 3) := by decide +kernel
theorem dX12_comesTo_4 : decode cX12_comesTo 4 = .ok (.iload_n 1, 1) := by decide +kernel
theorem dX12_comesTo_5 : decode cX12_comesTo 5 = .ok (.iaload, 1) := by decide +kernel
theorem dX12_comesTo_6 : decode cX12_comesTo 6 = .ok (.ifCond .lt 4, 3) := by decide +kernel
theorem dX12_comesTo_9 : decode cX12_comesTo 9 = .ok (.return_, 1) := by decide +kernel
theorem dX12_comesTo_10 : decode cX12_comesTo 10 = .ok (.aload_n 0, 1) := by decide +kernel
theorem dX12_comesTo_11 : decode cX12_comesTo 11 = .ok (.getfield 58, 3) := by decide +kernel
theorem dX12_comesTo_14 : decode cX12_comesTo 14 = .ok (.iload_n 1, 1) := by decide +kernel
theorem dX12_comesTo_15 : decode cX12_comesTo 15 = .ok (.iload_n 2, 1) := by decide +kernel
theorem dX12_comesTo_16 : decode cX12_comesTo 16 = .ok (.iastore, 1) := by decide +kernel
theorem dX12_comesTo_17 : decode cX12_comesTo 17 = .ok (.aload_n 0, 1) := by decide +kernel
theorem dX12_comesTo_18 : decode cX12_comesTo 18 = .ok (.getfield 61, 3) := by decide +kernel
theorem dX12_comesTo_21 : decode cX12_comesTo 21 = .ok (.aload_n 0, 1) := by decide +kernel
theorem dX12_comesTo_22 : decode cX12_comesTo 22 = .ok (.getfield 382, 3) := by decide +kernel
theorem dX12_comesTo_25 : decode cX12_comesTo 25 = .ok (.iload_n 1, 1) := by decide +kernel
theorem dX12_comesTo_26 : decode cX12_comesTo 26 = .ok (.iastore, 1) := by decide +kernel
theorem dX12_comesTo_27 : decode cX12_comesTo 27 = .ok (.aload_n 0, 1) := by decide +kernel
theorem dX12_comesTo_28 : decode cX12_comesTo 28 = .ok (.dup, 1) := by decide +kernel
theorem dX12_comesTo_29 : decode cX12_comesTo 29 = .ok (.getfield 382, 3) := by decide +kernel
theorem dX12_comesTo_32 : decode cX12_comesTo 32 = .ok (.iconst 1, 1) := by decide +kernel
theorem dX12_comesTo_33 : decode cX12_comesTo 33 = .ok (.iadd, 1) := by decide +kernel
theorem dX12_comesTo_34 : decode cX12_comesTo 34 = .ok (.putfield 382, 3) := by decide +kernel
theorem dX12_comesTo_37 : decode cX12_comesTo 37 = .ok (.return_, 1) := by decide +kernel
def m_comesTo (N : Nat) (a1 a2 : Int) (M : jMem) : Option (Int × jMem) := jchk (0 ≤ a1 ∧ a1 < 5040) <| (if (M 15 a1) < 0 then jchk (0 ≤ a1 ∧ a1 < 5040) <| jlt (up M 15 a1 a2) fun M3 => jchk (0 ≤ (M3 0 31) ∧ (M3 0 31) < 5040) <| jlt (up M3 16 ((M3 0 31)) a1) fun M5 => jlt (up M5 0 31 ((w32 (((M5 0 31)) + 1)))) fun M6 => some (0, M6) else some (0, M))
theorem c_m_comesTo {l : Launch} {g : jG} (N : Nat) (a1 a2 : Int) (M : jMem)  : ∀ o, m_comesTo N a1 a2 M = some o → jCt l g jTM yX12_comesTo cX12_comesTo 3 none 3 1 [(2, 0), (0, a1), (0, a2)] M o := by
  refine jMet (own := RX12) (em := id) (L := [(0, 2, 0), (1, 0, a1), (2, 0, a2)]) (by decide +kernel) rfl (Nat.le_of_ble_eq_true rfl) rfl (fun K hR => ?_)
  unfold m_comesTo
  refine z_aload_n (pc := 0) hR 0 dX12_comesTo_0 rfl rfl ?_
  refine z_getr (pc := 1) hR (c0 := 15) (r := 15) jf_RX12_58 kmo_0 (by decide) rfl rfl dX12_comesTo_1 ?_
  refine z_iload_n (pc := 4) hR 1 dX12_comesTo_4 rfl rfl ?_
  refine z_chk (fun hc1 => ?_)
  refine z_iald (pc := 5) hR (n := 5040) kma_15 hc1.1 hc1.2 dX12_comesTo_5 ?_
  refine z_iflt (pc := 6) (tgt := 10) hR dX12_comesTo_6 (by decide) ?_ ?_
  · refine z_aload_n (pc := 10) hR 0 dX12_comesTo_10 rfl rfl ?_
    refine z_getr (pc := 11) hR (c0 := 15) (r := 15) jf_RX12_58 kmo_0 (by decide) rfl rfl dX12_comesTo_11 ?_
    refine z_iload_n (pc := 14) hR 1 dX12_comesTo_14 rfl rfl ?_
    refine z_iload_n (pc := 15) hR 2 dX12_comesTo_15 rfl rfl ?_
    refine z_chk (fun hc2 => ?_)
    refine z_iast (pc := 16) hR (n := 5040) kma_15 hc2.1 hc2.2 dX12_comesTo_16 (fun M3 => ?_)
    refine z_aload_n (pc := 17) hR 0 dX12_comesTo_17 rfl rfl ?_
    refine z_getr (pc := 18) hR (c0 := 16) (r := 16) jf_RX12_61 kmo_0 (by decide) rfl rfl dX12_comesTo_18 ?_
    refine z_aload_n (pc := 21) hR 0 dX12_comesTo_21 rfl rfl ?_
    refine z_geti (pc := 22) hR (j := 31) jf_RX12_382 kmo_0 (by decide) rfl rfl dX12_comesTo_22 ?_
    refine z_iload_n (pc := 25) hR 1 dX12_comesTo_25 rfl rfl ?_
    refine z_chk (fun hc4 => ?_)
    refine z_iast (pc := 26) hR (n := 5040) kma_16 hc4.1 hc4.2 dX12_comesTo_26 (fun M5 => ?_)
    refine z_aload_n (pc := 27) hR 0 dX12_comesTo_27 rfl rfl ?_
    refine z_dup (pc := 28) hR dX12_comesTo_28 (by decide) ?_
    refine z_geti (pc := 29) hR (j := 31) jf_RX12_382 kmo_0 (by decide) rfl rfl dX12_comesTo_29 ?_
    refine z_iconst (pc := 32) hR dX12_comesTo_32 rfl ?_
    refine z_iadd (pc := 33) hR dX12_comesTo_33 ?_
    refine z_puti (pc := 34) hR (j := 31) jp_RX12_382 kmo_0 (by decide) rfl rfl rfl rfl dX12_comesTo_34 (fun M6 => ?_)
    exact z_return (x := 0) (pc := 37) hR rfl rfl dX12_comesTo_37 rfl
  · exact z_return (x := 0) (pc := 9) hR rfl rfl dX12_comesTo_9 rfl
theorem dX12_seeks_0 : decode cX12_seeks 0 = .ok (.iconst 0, 1) := by decide +kernel
theorem dX12_seeks_1 : decode cX12_seeks 1 = .ok (.istore_n 2, 1) := by decide +kernel
theorem dX12_seeks_2 : decode cX12_seeks 2 = .ok (.iload_n 2, 1) := by decide +kernel
theorem dX12_seeks_3 : decode cX12_seeks 3 = .ok (.sipush 5040, 3) := by decide +kernel
theorem dX12_seeks_6 : decode cX12_seeks 6 = .ok (.if_icmp .ge 16, 3) := by decide +kernel
theorem dX12_seeks_9 : decode cX12_seeks 9 = .ok (.aload_n 0, 1) := by decide +kernel
theorem dX12_seeks_10 : decode cX12_seeks 10 = .ok (.getfield 58, 3) := by decide +kernel
theorem dX12_seeks_13 : decode cX12_seeks 13 = .ok (.iload_n 2, 1) := by decide +kernel
theorem dX12_seeks_14 : decode cX12_seeks 14 = .ok (.iconst (-1), 1) := by decide +kernel
theorem dX12_seeks_15 : decode cX12_seeks 15 = .ok (.iastore, 1) := by decide +kernel
theorem dX12_seeks_16 : decode cX12_seeks 16 = .ok (.iinc 2 1, 3) := by decide +kernel
theorem dX12_seeks_19 : decode cX12_seeks 19 = .ok (.goto (-17), 3) := by decide +kernel
theorem dX12_seeks_22 : decode cX12_seeks 22 = .ok (.aload_n 0, 1) := by decide +kernel
theorem dX12_seeks_23 : decode cX12_seeks 23 = .ok (.iconst 0, 1) := by decide +kernel
theorem dX12_seeks_24 : decode cX12_seeks 24 = .ok (.putfield 382, 3) := by decide +kernel
theorem dX12_seeks_27 : decode cX12_seeks 27 = .ok (.aload_n 0, 1) := by decide +kernel
theorem dX12_seeks_28 : decode cX12_seeks 28 = .ok (.iload_n 1, 1) := by decide +kernel
theorem dX12_seeks_29 : decode cX12_seeks 29 = .ok (.iconst 0, 1) := by decide +kernel
theorem dX12_seeks_30 : decode cX12_seeks 30 = .ok (.invokevirtual 385, 3) := by decide +kernel
theorem dX12_seeks_33 : decode cX12_seeks 33 = .ok (.iconst 0, 1) := by decide +kernel
theorem dX12_seeks_34 : decode cX12_seeks 34 = .ok (.istore_n 2, 1) := by decide +kernel
theorem dX12_seeks_35 : decode cX12_seeks 35 = .ok (.iload_n 2, 1) := by decide +kernel
theorem dX12_seeks_36 : decode cX12_seeks 36 = .ok (.aload_n 0, 1) := by decide +kernel
theorem dX12_seeks_37 : decode cX12_seeks 37 = .ok (.getfield 382, 3) := by decide +kernel
theorem dX12_seeks_40 : decode cX12_seeks 40 = .ok (.if_icmp .ge 100, 3) := by decide +kernel
theorem dX12_seeks_43 : decode cX12_seeks 43 = .ok (.aload_n 0, 1) := by decide +kernel
theorem dX12_seeks_44 : decode cX12_seeks 44 = .ok (.getfield 58, 3) := by decide +kernel
theorem dX12_seeks_47 : decode cX12_seeks 47 = .ok (.aload_n 0, 1) := by decide +kernel
theorem dX12_seeks_48 : decode cX12_seeks 48 = .ok (.getfield 61, 3) := by decide +kernel
theorem dX12_seeks_51 : decode cX12_seeks 51 = .ok (.iload_n 2, 1) := by decide +kernel
theorem dX12_seeks_52 : decode cX12_seeks 52 = .ok (.iaload, 1) := by decide +kernel
theorem dX12_seeks_53 : decode cX12_seeks 53 = .ok (.iaload, 1) := by decide +kernel
theorem dX12_seeks_54 : decode cX12_seeks 54 = .ok (.istore_n 3, 1) := by decide +kernel
theorem dX12_seeks_55 : decode cX12_seeks 55 = .ok (.aload_n 0, 1) := by decide +kernel
theorem dX12_seeks_56 : decode cX12_seeks 56 = .ok (.aload_n 0, 1) := by decide +kernel
theorem dX12_seeks_57 : decode cX12_seeks 57 = .ok (.getfield 61, 3) := by decide +kernel
theorem dX12_seeks_60 : decode cX12_seeks 60 = .ok (.iload_n 2, 1) := by decide +kernel
theorem dX12_seeks_61 : decode cX12_seeks 61 = .ok (.iaload, 1) := by decide +kernel
theorem dX12_seeks_62 : decode cX12_seeks 62 = .ok (.invokevirtual 379, 3) := by decide +kernel
theorem dX12_seeks_65 : decode cX12_seeks 65 = .ok (.iconst 0, 1) := by decide +kernel
theorem dX12_seeks_66 : decode cX12_seeks 66 = .ok (.istore 4, 2) := by decide +kernel
theorem dX12_seeks_68 : decode cX12_seeks 68 = .ok (.iload 4, 2) := by decide +kernel
theorem dX12_seeks_70 : decode cX12_seeks 70 = .ok (.aload_n 0, 1) := by decide +kernel
theorem dX12_seeks_71 : decode cX12_seeks 71 = .ok (.getfield 39, 3) := by decide +kernel
theorem dX12_seeks_74 : decode cX12_seeks 74 = .ok (.iconst 1, 1) := by decide +kernel
theorem dX12_seeks_75 : decode cX12_seeks 75 = .ok (.iaload, 1) := by decide +kernel
theorem dX12_seeks_76 : decode cX12_seeks 76 = .ok (.if_icmp .ge 58, 3) := by decide +kernel
theorem dX12_seeks_79 : decode cX12_seeks 79 = .ok (.iload 4, 2) := by decide +kernel
theorem dX12_seeks_81 : decode cX12_seeks 81 = .ok (.iconst 1, 1) := by decide +kernel
theorem dX12_seeks_82 : decode cX12_seeks 82 = .ok (.iadd, 1) := by decide +kernel
theorem dX12_seeks_83 : decode cX12_seeks 83 = .ok (.istore 5, 2) := by decide +kernel
theorem dX12_seeks_85 : decode cX12_seeks 85 = .ok (.iload 5, 2) := by decide +kernel
theorem dX12_seeks_87 : decode cX12_seeks 87 = .ok (.aload_n 0, 1) := by decide +kernel
theorem dX12_seeks_88 : decode cX12_seeks 88 = .ok (.getfield 39, 3) := by decide +kernel
theorem dX12_seeks_91 : decode cX12_seeks 91 = .ok (.iconst 1, 1) := by decide +kernel
theorem dX12_seeks_92 : decode cX12_seeks 92 = .ok (.iaload, 1) := by decide +kernel
theorem dX12_seeks_93 : decode cX12_seeks 93 = .ok (.if_icmp .ge 35, 3) := by decide +kernel
theorem dX12_seeks_96 : decode cX12_seeks 96 = .ok (.aload_n 0, 1) := by decide +kernel
theorem dX12_seeks_97 : decode cX12_seeks 97 = .ok (.iload 4, 2) := by decide +kernel
theorem dX12_seeks_99 : decode cX12_seeks 99 = .ok (.iload 5, 2) := by decide +kernel
theorem dX12_seeks_101 : decode cX12_seeks 101 = .ok (.invokevirtual 301, 3) := by decide +kernel
theorem dX12_seeks_104 : decode cX12_seeks 104 = .ok (.ifCond .eq 18, 3) := by decide +kernel
theorem dX12_seeks_107 : decode cX12_seeks 107 = .ok (.aload_n 0, 1) := by decide +kernel
theorem dX12_seeks_108 : decode cX12_seeks 108 = .ok (.aload_n 0, 1) := by decide +kernel
theorem dX12_seeks_109 : decode cX12_seeks 109 = .ok (.iload 4, 2) := by decide +kernel
theorem dX12_seeks_111 : decode cX12_seeks 111 = .ok (.iload 5, 2) := by decide +kernel
theorem dX12_seeks_113 : decode cX12_seeks 113 = .ok (.invokevirtual 388, 3) := by decide +kernel
theorem dX12_seeks_116 : decode cX12_seeks 116 = .ok (.iload_n 3, 1) := by decide +kernel
theorem dX12_seeks_117 : decode cX12_seeks 117 = .ok (.iconst 1, 1) := by decide +kernel
theorem dX12_seeks_118 : decode cX12_seeks 118 = .ok (.iadd, 1) := by decide +kernel
theorem dX12_seeks_119 : decode cX12_seeks 119 = .ok (.invokevirtual 385, 3) := by decide +kernel
theorem dX12_seeks_122 : decode cX12_seeks 122 = .ok (.iinc 5 1, 3) := by decide +kernel
theorem dX12_seeks_125 : decode cX12_seeks 125 = .ok (.goto (-40), 3) := by decide +kernel
theorem dX12_seeks_128 : decode cX12_seeks 128 = .ok (.iinc 4 1, 3) := by decide +kernel
theorem dX12_seeks_131 : decode cX12_seeks 131 = .ok (.goto (-63), 3) := by decide +kernel
theorem dX12_seeks_134 : decode cX12_seeks 134 = .ok (.iinc 2 1, 3) := by decide +kernel
theorem dX12_seeks_137 : decode cX12_seeks 137 = .ok (.goto (-102), 3) := by decide +kernel
theorem dX12_seeks_140 : decode cX12_seeks 140 = .ok (.return_, 1) := by decide +kernel
def m_seeks_L85 (N : Nat) (v9 : Int) (x12 : Int) (h68 : (Int × jMem) → Option (Int × jMem)) (h85 : (Int × jMem) → Option (Int × jMem)) : Int × jMem → Option (Int × jMem)
  | (x15, M16) => (if x15 < (M16 10 1) then (m_isKin N x12 x15 M16).bind fun r17 => (if r17 = 0 then h85 ((w32 (x15 + 1)), M16) else jb1 (m_rankBy N x12 x15 M16) fun r18 M19 => jbv (m_comesTo N r18 ((w32 (v9 + 1))) M19) fun M20 => h85 ((w32 (x15 + 1)), M20)) else h68 ((w32 (x12 + 1)), M16))
def m_seeks_L68 (N : Nat) (x5 : Int) (h35 : (Int × jMem) → Option (Int × jMem)) (v9 : Int) (h68 : (Int × jMem) → Option (Int × jMem)) : Int × jMem → Option (Int × jMem)
  | (x12, M13) => (if x12 < (M13 10 1) then jlt ((w32 (x12 + 1))) fun v14 => jfix N (m_seeks_L85 N v9 x12 h68) (v14, M13) else h35 ((w32 (x5 + 1)), M13))
def m_seeks_L35 (N : Nat)  (h35 : (Int × jMem) → Option (Int × jMem)) : Int × jMem → Option (Int × jMem)
  | (x5, M6) => (if x5 < (M6 0 31) then jchk (0 ≤ x5 ∧ x5 < 5040) <| jchk (0 ≤ (M6 16 x5) ∧ (M6 16 x5) < 5040) <| jlt ((M6 15 ((M6 16 x5)))) fun v9 => jchk (0 ≤ x5 ∧ x5 < 5040) <| jbv (m_rowOf N ((M6 16 x5)) M6) fun M11 => jfix N (m_seeks_L68 N x5 h35 v9) (0, M11) else some (0, M6))
def m_seeks_L2 (N : Nat) (a1 : Int) (h2 : (Int × jMem) → Option (Int × jMem)) : Int × jMem → Option (Int × jMem)
  | (x1, M2) => (if x1 < 5040 then jchk (0 ≤ x1 ∧ x1 < 5040) <| jlt (up M2 15 x1 ((-1))) fun M22 => h2 ((w32 (x1 + 1)), M22) else jlt (up M2 0 31 0) fun M3 => jbv (m_comesTo N a1 0 M3) fun M4 => jfix N (m_seeks_L35 N) (0, M4))
def m_seeks (N : Nat) (a1 : Int) (M : jMem) : Option (Int × jMem) := jfix N (m_seeks_L2 N a1) (0, M)
theorem c_m_seeks {l : Launch} {g : jG} (N : Nat) (a1 : Int) (M : jMem)  : ∀ o, m_seeks N a1 M = some o → jCt l g jTM yX12_seeks cX12_seeks 6 none 3 7 [(2, 0), (0, a1)] M o := by
  refine jMet (own := RX12) (em := id) (L := [(0, 2, 0), (1, 0, a1)]) (by decide +kernel) rfl (Nat.le_of_ble_eq_true rfl) rfl (fun K hR => ?_)
  unfold m_seeks
  refine z_iconst (pc := 0) hR dX12_seeks_0 rfl ?_
  refine z_istore_n (pc := 1) hR (lv' := [(2, 0, 0), (0, 2, 0), (1, 0, a1)]) dX12_seeks_1 rfl (by decide) rfl ?_
  refine z_pick (pc := 2) (lv' := [(0, 2, 0), (1, 0, a1), (2, 0, 0)]) hR [1, 2, 0] rfl ?_
  refine z_fix (σ := Int × jMem) (lv := fun s => [(0, 2, 0), (1, 0, a1), (2, 0, s.1)]) (st := fun _ => []) (M := fun s => s.2) (fun h2 hh2 => ?_) N (0, M)
  rintro ⟨x1, M2⟩
  show jZ K id 2 [(0, 2, 0), (1, 0, a1), (2, 0, x1)] [] M2 _
  unfold m_seeks_L2
  refine z_iload_n (pc := 2) hR 2 dX12_seeks_2 rfl rfl ?_
  refine z_sipush (pc := 3) hR dX12_seeks_3 rfl ?_
  refine z_icmpge (pc := 6) (tgt := 22) hR dX12_seeks_6 (by decide) ?_ ?_
  · refine z_aload_n (pc := 22) hR 0 dX12_seeks_22 rfl rfl ?_
    refine z_iconst (pc := 23) hR dX12_seeks_23 rfl ?_
    refine z_puti (pc := 24) hR (j := 31) jp_RX12_382 kmo_0 (by decide) rfl rfl rfl rfl dX12_seeks_24 (fun M3 => ?_)
    refine z_aload_n (pc := 27) hR 0 dX12_seeks_27 rfl rfl ?_
    refine z_iload_n (pc := 28) hR 1 dX12_seeks_28 rfl rfl ?_
    refine z_iconst (pc := 29) hR dX12_seeks_29 rfl ?_
    refine z_callv0 (pc := 30) (rk' := 3) hR (As := [(0, a1), (0, 0)]) (st := []) jm_X12_comesTo jl_RX12_385 kmo_0 (by decide) rfl (c_m_comesTo N a1 0 M3) rfl (by decide) (by decide) rfl (Nat.le_of_ble_eq_true rfl) dX12_seeks_30 (fun M4 => ?_)
    refine z_iconst (pc := 33) hR dX12_seeks_33 rfl ?_
    refine z_istore_n (pc := 34) hR (lv' := [(2, 0, 0), (0, 2, 0), (1, 0, a1)]) dX12_seeks_34 rfl (by decide) rfl ?_
    refine z_pick (pc := 35) (lv' := [(0, 2, 0), (2, 0, 0)]) hR [1, 0] rfl ?_
    refine z_fix (σ := Int × jMem) (lv := fun s => [(0, 2, 0), (2, 0, s.1)]) (st := fun _ => []) (M := fun s => s.2) (fun h35 hh35 => ?_) N (0, M4)
    rintro ⟨x5, M6⟩
    show jZ K id 35 [(0, 2, 0), (2, 0, x5)] [] M6 _
    unfold m_seeks_L35
    refine z_iload_n (pc := 35) hR 1 dX12_seeks_35 rfl rfl ?_
    refine z_aload_n (pc := 36) hR 0 dX12_seeks_36 rfl rfl ?_
    refine z_geti (pc := 37) hR (j := 31) jf_RX12_382 kmo_0 (by decide) rfl rfl dX12_seeks_37 ?_
    refine z_icmpge (pc := 40) (tgt := 140) hR dX12_seeks_40 (by decide) ?_ ?_
    · exact z_return (x := 0) (pc := 140) hR rfl rfl dX12_seeks_140 rfl
    · refine z_aload_n (pc := 43) hR 0 dX12_seeks_43 rfl rfl ?_
      refine z_getr (pc := 44) hR (c0 := 15) (r := 15) jf_RX12_58 kmo_0 (by decide) rfl rfl dX12_seeks_44 ?_
      refine z_aload_n (pc := 47) hR 0 dX12_seeks_47 rfl rfl ?_
      refine z_getr (pc := 48) hR (c0 := 16) (r := 16) jf_RX12_61 kmo_0 (by decide) rfl rfl dX12_seeks_48 ?_
      refine z_iload_n (pc := 51) hR 1 dX12_seeks_51 rfl rfl ?_
      refine z_chk (fun hc7 => ?_)
      refine z_iald (pc := 52) hR (n := 5040) kma_16 hc7.1 hc7.2 dX12_seeks_52 ?_
      refine z_chk (fun hc8 => ?_)
      refine z_iald (pc := 53) hR (n := 5040) kma_15 hc8.1 hc8.2 dX12_seeks_53 ?_
      refine z_let1 (fun v9 => ?_)
      refine z_istore_n (pc := 54) hR (lv' := [(3, 0, v9), (0, 2, 0), (2, 0, x5)]) dX12_seeks_54 rfl (by decide) rfl ?_
      refine z_aload_n (pc := 55) hR 1 dX12_seeks_55 rfl rfl ?_
      refine z_aload_n (pc := 56) hR 1 dX12_seeks_56 rfl rfl ?_
      refine z_getr (pc := 57) hR (c0 := 16) (r := 16) jf_RX12_61 kmo_0 (by decide) rfl rfl dX12_seeks_57 ?_
      refine z_iload_n (pc := 60) hR 2 dX12_seeks_60 rfl rfl ?_
      refine z_chk (fun hc10 => ?_)
      refine z_iald (pc := 61) hR (n := 5040) kma_16 hc10.1 hc10.2 dX12_seeks_61 ?_
      refine z_callv0 (pc := 62) (rk' := 3) hR (As := [(0, (M6 16 x5))]) (st := []) jm_X12_rowOf jl_RX12_379 kmo_0 (by decide) rfl (c_m_rowOf N ((M6 16 x5)) M6) rfl (by decide) (by decide) rfl (Nat.le_of_ble_eq_true rfl) dX12_seeks_62 (fun M11 => ?_)
      refine z_iconst (pc := 65) hR dX12_seeks_65 rfl ?_
      refine z_istore (pc := 66) hR (lv' := [(4, 0, 0), (3, 0, v9), (0, 2, 0), (2, 0, x5)]) dX12_seeks_66 (by decide) rfl ?_
      refine z_pick (pc := 68) (lv' := [(0, 2, 0), (2, 0, x5), (3, 0, v9), (4, 0, 0)]) hR [2, 3, 1, 0] rfl ?_
      refine z_fix (σ := Int × jMem) (lv := fun s => [(0, 2, 0), (2, 0, x5), (3, 0, v9), (4, 0, s.1)]) (st := fun _ => []) (M := fun s => s.2) (fun h68 hh68 => ?_) N (0, M11)
      rintro ⟨x12, M13⟩
      show jZ K id 68 [(0, 2, 0), (2, 0, x5), (3, 0, v9), (4, 0, x12)] [] M13 _
      unfold m_seeks_L68
      refine z_iload (pc := 68) hR 3 dX12_seeks_68 rfl ?_
      refine z_aload_n (pc := 70) hR 0 dX12_seeks_70 rfl rfl ?_
      refine z_getr (pc := 71) hR (c0 := 10) (r := 10) jf_RX12_39 kmo_0 (by decide) rfl rfl dX12_seeks_71 ?_
      refine z_iconst (pc := 74) hR dX12_seeks_74 rfl ?_
      refine z_iald (pc := 75) hR (n := 112) kma_10 (by decide) (by decide) dX12_seeks_75 ?_
      refine z_icmpge (pc := 76) (tgt := 134) hR dX12_seeks_76 (by decide) ?_ ?_
      · refine z_iinc (pc := 134) hR (j := 1) (lv' := [(2, 0, (w32 (x5 + 1))), (0, 2, 0), (3, 0, v9), (4, 0, x12)]) dX12_seeks_134 rfl (by decide) rfl ?_
        refine z_goto (pc := 137) (tgt := 35) hR dX12_seeks_137 (by decide) ?_
        refine z_pick (pc := 35) (lv' := [(0, 2, 0), (2, 0, (w32 (x5 + 1)))]) hR [1, 0] rfl ?_
        exact hh35 ((w32 (x5 + 1)), M13)
      · refine z_iload (pc := 79) hR 3 dX12_seeks_79 rfl ?_
        refine z_iconst (pc := 81) hR dX12_seeks_81 rfl ?_
        refine z_iadd (pc := 82) hR dX12_seeks_82 ?_
        refine z_let1 (fun v14 => ?_)
        refine z_istore (pc := 83) hR (lv' := [(5, 0, v14), (0, 2, 0), (2, 0, x5), (3, 0, v9), (4, 0, x12)]) dX12_seeks_83 (by decide) rfl ?_
        refine z_pick (pc := 85) (lv' := [(0, 2, 0), (2, 0, x5), (3, 0, v9), (4, 0, x12), (5, 0, v14)]) hR [1, 2, 3, 4, 0] rfl ?_
        refine z_fix (σ := Int × jMem) (lv := fun s => [(0, 2, 0), (2, 0, x5), (3, 0, v9), (4, 0, x12), (5, 0, s.1)]) (st := fun _ => []) (M := fun s => s.2) (fun h85 hh85 => ?_) N (v14, M13)
        rintro ⟨x15, M16⟩
        show jZ K id 85 [(0, 2, 0), (2, 0, x5), (3, 0, v9), (4, 0, x12), (5, 0, x15)] [] M16 _
        unfold m_seeks_L85
        refine z_iload (pc := 85) hR 4 dX12_seeks_85 rfl ?_
        refine z_aload_n (pc := 87) hR 0 dX12_seeks_87 rfl rfl ?_
        refine z_getr (pc := 88) hR (c0 := 10) (r := 10) jf_RX12_39 kmo_0 (by decide) rfl rfl dX12_seeks_88 ?_
        refine z_iconst (pc := 91) hR dX12_seeks_91 rfl ?_
        refine z_iald (pc := 92) hR (n := 112) kma_10 (by decide) (by decide) dX12_seeks_92 ?_
        refine z_icmpge (pc := 93) (tgt := 128) hR dX12_seeks_93 (by decide) ?_ ?_
        · refine z_iinc (pc := 128) hR (j := 3) (lv' := [(4, 0, (w32 (x12 + 1))), (0, 2, 0), (2, 0, x5), (3, 0, v9), (5, 0, x15)]) dX12_seeks_128 rfl (by decide) rfl ?_
          refine z_goto (pc := 131) (tgt := 68) hR dX12_seeks_131 (by decide) ?_
          refine z_pick (pc := 68) (lv' := [(0, 2, 0), (2, 0, x5), (3, 0, v9), (4, 0, (w32 (x12 + 1)))]) hR [1, 2, 3, 0] rfl ?_
          exact hh68 ((w32 (x12 + 1)), M16)
        · refine z_aload_n (pc := 96) hR 0 dX12_seeks_96 rfl rfl ?_
          refine z_iload (pc := 97) hR 3 dX12_seeks_97 rfl ?_
          refine z_iload (pc := 99) hR 4 dX12_seeks_99 rfl ?_
          refine z_callvp (pc := 101) hR (As := [(0, x12), (0, x15)]) (st := []) jm_X12_isKin jl_RX12_301 kmo_0 (by decide) rfl (by decide) (c_m_isKin N x12 x15 M16) rfl (by decide) (by decide) rfl (Nat.le_of_ble_eq_true rfl) dX12_seeks_101 (fun r17 => ?_)
          refine z_ifeq (pc := 104) (tgt := 122) hR dX12_seeks_104 (by decide) ?_ ?_
          · refine z_iinc (pc := 122) hR (j := 4) (lv' := [(5, 0, (w32 (x15 + 1))), (0, 2, 0), (2, 0, x5), (3, 0, v9), (4, 0, x12)]) dX12_seeks_122 rfl (by decide) rfl ?_
            refine z_goto (pc := 125) (tgt := 85) hR dX12_seeks_125 (by decide) ?_
            refine z_pick (pc := 85) (lv' := [(0, 2, 0), (2, 0, x5), (3, 0, v9), (4, 0, x12), (5, 0, (w32 (x15 + 1)))]) hR [1, 2, 3, 4, 0] rfl ?_
            exact hh85 ((w32 (x15 + 1)), M16)
          · refine z_aload_n (pc := 107) hR 0 dX12_seeks_107 rfl rfl ?_
            refine z_aload_n (pc := 108) hR 0 dX12_seeks_108 rfl rfl ?_
            refine z_iload (pc := 109) hR 3 dX12_seeks_109 rfl ?_
            refine z_iload (pc := 111) hR 4 dX12_seeks_111 rfl ?_
            refine z_callv1 (pc := 113) hR (As := [(0, x12), (0, x15)]) (st := [(2, 0)]) jm_X12_rankBy jl_RX12_388 kmo_0 (by decide) rfl (by decide) (c_m_rankBy N x12 x15 M16) rfl (by decide) (by decide) rfl (Nat.le_of_ble_eq_true rfl) dX12_seeks_113 (fun r18 M19 => ?_)
            refine z_iload_n (pc := 116) hR 2 dX12_seeks_116 rfl rfl ?_
            refine z_iconst (pc := 117) hR dX12_seeks_117 rfl ?_
            refine z_iadd (pc := 118) hR dX12_seeks_118 ?_
            refine z_callv0 (pc := 119) (rk' := 3) hR (As := [(0, r18), (0, (w32 (v9 + 1)))]) (st := []) jm_X12_comesTo jl_RX12_385 kmo_0 (by decide) rfl (c_m_comesTo N r18 ((w32 (v9 + 1))) M19) rfl (by decide) (by decide) rfl (Nat.le_of_ble_eq_true rfl) dX12_seeks_119 (fun M20 => ?_)
            refine z_iinc (pc := 122) hR (j := 4) (lv' := [(5, 0, (w32 (x15 + 1))), (0, 2, 0), (2, 0, x5), (3, 0, v9), (4, 0, x12)]) dX12_seeks_122 rfl (by decide) rfl ?_
            refine z_goto (pc := 125) (tgt := 85) hR dX12_seeks_125 (by decide) ?_
            refine z_pick (pc := 85) (lv' := [(0, 2, 0), (2, 0, x5), (3, 0, v9), (4, 0, x12), (5, 0, (w32 (x15 + 1)))]) hR [1, 2, 3, 4, 0] rfl ?_
            exact hh85 ((w32 (x15 + 1)), M20)
  · refine z_aload_n (pc := 9) hR 0 dX12_seeks_9 rfl rfl ?_
    refine z_getr (pc := 10) hR (c0 := 15) (r := 15) jf_RX12_58 kmo_0 (by decide) rfl rfl dX12_seeks_10 ?_
    refine z_iload_n (pc := 13) hR 2 dX12_seeks_13 rfl rfl ?_
    refine z_iconst (pc := 14) hR dX12_seeks_14 rfl ?_
    refine z_chk (fun hc21 => ?_)
    refine z_iast (pc := 15) hR (n := 5040) kma_15 hc21.1 hc21.2 dX12_seeks_15 (fun M22 => ?_)
    refine z_iinc (pc := 16) hR (j := 2) (lv' := [(2, 0, (w32 (x1 + 1))), (0, 2, 0), (1, 0, a1)]) dX12_seeks_16 rfl (by decide) rfl ?_
    refine z_goto (pc := 19) (tgt := 2) hR dX12_seeks_19 (by decide) ?_
    refine z_pick (pc := 2) (lv' := [(0, 2, 0), (1, 0, a1), (2, 0, (w32 (x1 + 1)))]) hR [1, 2, 0] rfl ?_
    exact hh2 ((w32 (x1 + 1)), M22)
theorem dX12_rankTold_0 : decode cX12_rankTold 0 = .ok (.aload_n 0, 1) := by decide +kernel
theorem dX12_rankTold_1 : decode cX12_rankTold 1 = .ok (.invokevirtual 313, 3) := by decide +kernel
theorem dX12_rankTold_4 : decode cX12_rankTold 4 = .ok (.ifCond .ne 5, 3) := by decide +kernel
theorem dX12_rankTold_7 : decode cX12_rankTold 7 = .ok (.iconst (-1), 1) := by decide +kernel
theorem dX12_rankTold_8 : decode cX12_rankTold 8 = .ok (.ireturn, 1) := by decide +kernel
theorem dX12_rankTold_9 : decode cX12_rankTold 9 = .ok (.iload_n 1, 1) := by decide +kernel
theorem dX12_rankTold_10 : decode cX12_rankTold 10 = .ok (.istore_n 2, 1) := by decide +kernel
theorem dX12_rankTold_11 : decode cX12_rankTold 11 = .ok (.iconst 0, 1) := by decide +kernel
theorem dX12_rankTold_12 : decode cX12_rankTold 12 = .ok (.istore_n 3, 1) := by decide +kernel
theorem dX12_rankTold_13 : decode cX12_rankTold 13 = .ok (.aload_n 0, 1) := by decide +kernel
theorem dX12_rankTold_14 : decode cX12_rankTold 14 = .ok (.getfield 39, 3) := by decide +kernel
theorem dX12_rankTold_17 : decode cX12_rankTold 17 = .ok (.iconst 1, 1) := by decide +kernel
theorem dX12_rankTold_18 : decode cX12_rankTold 18 = .ok (.iaload, 1) := by decide +kernel
theorem dX12_rankTold_19 : decode cX12_rankTold 19 = .ok (.iconst 1, 1) := by decide +kernel
theorem dX12_rankTold_20 : decode cX12_rankTold 20 = .ok (.isub, 1) := by decide +kernel
theorem dX12_rankTold_21 : decode cX12_rankTold 21 = .ok (.istore 4, 2) := by decide +kernel
theorem dX12_rankTold_23 : decode cX12_rankTold 23 = .ok (.iload 4, 2) := by decide +kernel
theorem dX12_rankTold_25 : decode cX12_rankTold 25 = .ok (.ifCond .lt 58, 3) := by decide +kernel
theorem dX12_rankTold_28 : decode cX12_rankTold 28 = .ok (.iload_n 2, 1) := by decide +kernel
theorem dX12_rankTold_29 : decode cX12_rankTold 29 = .ok (.bipush 10, 2) := by decide +kernel
theorem dX12_rankTold_31 : decode cX12_rankTold 31 = .ok (.irem, 1) := by decide +kernel
theorem dX12_rankTold_32 : decode cX12_rankTold 32 = .ok (.iconst 1, 1) := by decide +kernel
theorem dX12_rankTold_33 : decode cX12_rankTold 33 = .ok (.isub, 1) := by decide +kernel
theorem dX12_rankTold_34 : decode cX12_rankTold 34 = .ok (.istore 5, 2) := by decide +kernel
theorem dX12_rankTold_36 : decode cX12_rankTold 36 = .ok (.aload_n 0, 1) := by decide +kernel
theorem dX12_rankTold_37 : decode cX12_rankTold 37 = .ok (.iload 5, 2) := by decide +kernel
theorem dX12_rankTold_39 : decode cX12_rankTold 39 = .ok (.invokevirtual 298, 3) := by decide +kernel
theorem dX12_rankTold_42 : decode cX12_rankTold 42 = .ok (.ifCond .eq 12, 3) := by decide +kernel
theorem dX12_rankTold_45 : decode cX12_rankTold 45 = .ok (.iload_n 3, 1) := by decide +kernel
theorem dX12_rankTold_46 : decode cX12_rankTold 46 = .ok (.iload 5, 2) := by decide +kernel
theorem dX12_rankTold_48 : decode cX12_rankTold 48 = .ok (.invokestatic 295, 3) := by decide +kernel
theorem dX12_rankTold_51 : decode cX12_rankTold 51 = .ok (.ifCond .eq 5, 3) := by decide +kernel
theorem dX12_rankTold_54 : decode cX12_rankTold 54 = .ok (.iconst (-1), 1) := by decide +kernel
theorem dX12_rankTold_55 : decode cX12_rankTold 55 = .ok (.ireturn, 1) := by decide +kernel
theorem dX12_rankTold_56 : decode cX12_rankTold 56 = .ok (.iload_n 3, 1) := by decide +kernel
theorem dX12_rankTold_57 : decode cX12_rankTold 57 = .ok (.iconst 1, 1) := by decide +kernel
theorem dX12_rankTold_58 : decode cX12_rankTold 58 = .ok (.iload 5, 2) := by decide +kernel
theorem dX12_rankTold_60 : decode cX12_rankTold 60 = .ok (.ishl, 1) := by decide +kernel
theorem dX12_rankTold_61 : decode cX12_rankTold 61 = .ok (.ior, 1) := by decide +kernel
theorem dX12_rankTold_62 : decode cX12_rankTold 62 = .ok (.istore_n 3, 1) := by decide +kernel
theorem dX12_rankTold_63 : decode cX12_rankTold 63 = .ok (.aload_n 0, 1) := by decide +kernel
theorem dX12_rankTold_64 : decode cX12_rankTold 64 = .ok (.getfield 52, 3) := by decide +kernel
theorem dX12_rankTold_67 : decode cX12_rankTold 67 = .ok (.iload 4, 2) := by decide +kernel
theorem dX12_rankTold_69 : decode cX12_rankTold 69 = .ok (.iload 5, 2) := by decide +kernel
theorem dX12_rankTold_71 : decode cX12_rankTold 71 = .ok (.iastore, 1) := by decide +kernel
theorem dX12_rankTold_72 : decode cX12_rankTold 72 = .ok (.iload_n 2, 1) := by decide +kernel
theorem dX12_rankTold_73 : decode cX12_rankTold 73 = .ok (.bipush 10, 2) := by decide +kernel
theorem dX12_rankTold_75 : decode cX12_rankTold 75 = .ok (.idiv, 1) := by decide +kernel
theorem dX12_rankTold_76 : decode cX12_rankTold 76 = .ok (.istore_n 2, 1) := by decide +kernel
theorem dX12_rankTold_77 : decode cX12_rankTold 77 = .ok (.iinc 4 (-1), 3) := by decide +kernel
theorem dX12_rankTold_80 : decode cX12_rankTold 80 = .ok (.goto (-57), 3) := by decide +kernel
theorem dX12_rankTold_83 : decode cX12_rankTold 83 = .ok (.iload_n 2, 1) := by decide +kernel
theorem dX12_rankTold_84 : decode cX12_rankTold 84 = .ok (.ifCond .eq 7, 3) := by decide +kernel
theorem dX12_rankTold_87 : decode cX12_rankTold 87 = .ok (.iconst (-1), 1) := by decide +kernel
theorem dX12_rankTold_88 : decode cX12_rankTold 88 = .ok (.goto 11, 3) := by decide +kernel
theorem dX12_rankTold_91 : decode cX12_rankTold 91 = .ok (.aload_n 0, 1) := by decide +kernel
theorem dX12_rankTold_92 : decode cX12_rankTold 92 = .ok (.aload_n 0, 1) := by decide +kernel
theorem dX12_rankTold_93 : decode cX12_rankTold 93 = .ok (.getfield 52, 3) := by decide +kernel
theorem dX12_rankTold_96 : decode cX12_rankTold 96 = .ok (.invokevirtual 375, 3) := by decide +kernel
theorem dX12_rankTold_99 : decode cX12_rankTold 99 = .ok (.ireturn, 1) := by decide +kernel
def m_rankTold_L23 (N : Nat)  (h23 : (Int × Int × Int × jMem) → Option (Int × jMem)) : Int × Int × Int × jMem → Option (Int × jMem)
  | (x3, x4, x5, M6) => (if x5 < 0 then (if x3 = 0 then (m_rankOf N 13 M6).bind fun r7 => some (r7, M6) else some ((-1), M6)) else jlt ((w32 (((x3.tmod 10)) - 1))) fun v8 => (m_isOne N v8 M6).bind fun r9 => (if r9 = 0 then some ((-1), M6) else (m_isOf N x4 v8 M6).bind fun r10 => (if r10 = 0 then jlt ((jor x4 ((jshl 1 v8)))) fun v11 => jchk (0 ≤ x5 ∧ x5 < 7) <| jlt (up M6 13 x5 v8) fun M13 => jlt ((w32 (x3.tdiv 10))) fun v14 => h23 (v14, v11, (w32 (x5 + (-1))), M13) else some ((-1), M6))))
def m_rankTold (N : Nat) (a1 : Int) (M : jMem) : Option (Int × jMem) := (m_isParish N M).bind fun r1 => (if r1 = 0 then some ((-1), M) else jlt ((w32 (((M 10 1)) - 1))) fun v2 => jfix N (m_rankTold_L23 N) (a1, 0, v2, M))
theorem c_m_rankTold {l : Launch} {g : jG} (N : Nat) (a1 : Int) (M : jMem)  : ∀ o, m_rankTold N a1 M = some o → jCt l g jTM yX12_rankTold cX12_rankTold 6 (some .int) 0 5 [(2, 0), (0, a1)] M o := by
  refine jMet (own := RX12) (em := id) (L := [(0, 2, 0), (1, 0, a1)]) (by decide +kernel) rfl (Nat.le_of_ble_eq_true rfl) rfl (fun K hR => ?_)
  unfold m_rankTold
  refine z_aload_n (pc := 0) hR 0 dX12_rankTold_0 rfl rfl ?_
  refine z_callvp (pc := 1) hR (As := []) (st := []) jm_X12_isParish jl_RX12_313 kmo_0 (by decide) rfl (by decide) (c_m_isParish N M) rfl (by decide) (by decide) rfl (Nat.le_of_ble_eq_true rfl) dX12_rankTold_1 (fun r1 => ?_)
  refine z_ifne (pc := 4) (tgt := 9) hR dX12_rankTold_4 (by decide) ?_ ?_
  · refine z_iload_n (pc := 9) hR 1 dX12_rankTold_9 rfl rfl ?_
    refine z_istore_n (pc := 10) hR (lv' := [(2, 0, a1), (0, 2, 0), (1, 0, a1)]) dX12_rankTold_10 rfl (by decide) rfl ?_
    refine z_iconst (pc := 11) hR dX12_rankTold_11 rfl ?_
    refine z_istore_n (pc := 12) hR (lv' := [(3, 0, 0), (2, 0, a1), (0, 2, 0), (1, 0, a1)]) dX12_rankTold_12 rfl (by decide) rfl ?_
    refine z_aload_n (pc := 13) hR 2 dX12_rankTold_13 rfl rfl ?_
    refine z_getr (pc := 14) hR (c0 := 10) (r := 10) jf_RX12_39 kmo_0 (by decide) rfl rfl dX12_rankTold_14 ?_
    refine z_iconst (pc := 17) hR dX12_rankTold_17 rfl ?_
    refine z_iald (pc := 18) hR (n := 112) kma_10 (by decide) (by decide) dX12_rankTold_18 ?_
    refine z_iconst (pc := 19) hR dX12_rankTold_19 rfl ?_
    refine z_isub (pc := 20) hR dX12_rankTold_20 ?_
    refine z_let1 (fun v2 => ?_)
    refine z_istore (pc := 21) hR (lv' := [(4, 0, v2), (3, 0, 0), (2, 0, a1), (0, 2, 0), (1, 0, a1)]) dX12_rankTold_21 (by decide) rfl ?_
    refine z_pick (pc := 23) (lv' := [(0, 2, 0), (2, 0, a1), (3, 0, 0), (4, 0, v2)]) hR [3, 2, 1, 0] rfl ?_
    refine z_fix (σ := Int × Int × Int × jMem) (lv := fun s => [(0, 2, 0), (2, 0, s.1), (3, 0, s.2.1), (4, 0, s.2.2.1)]) (st := fun _ => []) (M := fun s => s.2.2.2) (fun h23 hh23 => ?_) N (a1, 0, v2, M)
    rintro ⟨x3, x4, x5, M6⟩
    show jZ K id 23 [(0, 2, 0), (2, 0, x3), (3, 0, x4), (4, 0, x5)] [] M6 _
    unfold m_rankTold_L23
    refine z_iload (pc := 23) hR 3 dX12_rankTold_23 rfl ?_
    refine z_iflt (pc := 25) (tgt := 83) hR dX12_rankTold_25 (by decide) ?_ ?_
    · refine z_iload_n (pc := 83) hR 1 dX12_rankTold_83 rfl rfl ?_
      refine z_ifeq (pc := 84) (tgt := 91) hR dX12_rankTold_84 (by decide) ?_ ?_
      · refine z_aload_n (pc := 91) hR 0 dX12_rankTold_91 rfl rfl ?_
        refine z_aload_n (pc := 92) hR 0 dX12_rankTold_92 rfl rfl ?_
        refine z_getr (pc := 93) hR (c0 := 13) (r := 13) jf_RX12_52 kmo_0 (by decide) rfl rfl dX12_rankTold_93 ?_
        refine z_callvp (pc := 96) hR (As := [(2, 13)]) (st := []) jm_X12_rankOf jl_RX12_375 kmo_0 (by decide) rfl (by decide) (c_m_rankOf N 13 M6 kma_13) rfl (by decide) (by decide) rfl (Nat.le_of_ble_eq_true rfl) dX12_rankTold_96 (fun r7 => ?_)
        exact z_ireturn (pc := 99) hR rfl rfl dX12_rankTold_99 rfl
      · refine z_iconst (pc := 87) hR dX12_rankTold_87 rfl ?_
        refine z_goto (pc := 88) (tgt := 99) hR dX12_rankTold_88 (by decide) ?_
        exact z_ireturn (pc := 99) hR rfl rfl dX12_rankTold_99 rfl
    · refine z_iload_n (pc := 28) hR 1 dX12_rankTold_28 rfl rfl ?_
      refine z_bipush (pc := 29) hR dX12_rankTold_29 rfl ?_
      refine z_irem (pc := 31) hR dX12_rankTold_31 (by decide) ?_
      refine z_iconst (pc := 32) hR dX12_rankTold_32 rfl ?_
      refine z_isub (pc := 33) hR dX12_rankTold_33 ?_
      refine z_let1 (fun v8 => ?_)
      refine z_istore (pc := 34) hR (lv' := [(5, 0, v8), (0, 2, 0), (2, 0, x3), (3, 0, x4), (4, 0, x5)]) dX12_rankTold_34 (by decide) rfl ?_
      refine z_aload_n (pc := 36) hR 1 dX12_rankTold_36 rfl rfl ?_
      refine z_iload (pc := 37) hR 0 dX12_rankTold_37 rfl ?_
      refine z_callvp (pc := 39) hR (As := [(0, v8)]) (st := []) jm_X12_isOne jl_RX12_298 kmo_0 (by decide) rfl (by decide) (c_m_isOne N v8 M6) rfl (by decide) (by decide) rfl (Nat.le_of_ble_eq_true rfl) dX12_rankTold_39 (fun r9 => ?_)
      refine z_ifeq (pc := 42) (tgt := 54) hR dX12_rankTold_42 (by decide) ?_ ?_
      · refine z_iconst (pc := 54) hR dX12_rankTold_54 rfl ?_
        exact z_ireturn (pc := 55) hR rfl rfl dX12_rankTold_55 rfl
      · refine z_iload_n (pc := 45) hR 3 dX12_rankTold_45 rfl rfl ?_
        refine z_iload (pc := 46) hR 0 dX12_rankTold_46 rfl ?_
        refine z_callsp (pc := 48) hR (As := [(0, x4), (0, v8)]) (st := []) jm_X12_isOf jl_RX12_295 (by decide) (c_m_isOf N x4 v8 M6) rfl (by decide) (by decide) rfl (Nat.le_of_ble_eq_true rfl) dX12_rankTold_48 (fun r10 => ?_)
        refine z_ifeq (pc := 51) (tgt := 56) hR dX12_rankTold_51 (by decide) ?_ ?_
        · refine z_iload_n (pc := 56) hR 3 dX12_rankTold_56 rfl rfl ?_
          refine z_iconst (pc := 57) hR dX12_rankTold_57 rfl ?_
          refine z_iload (pc := 58) hR 0 dX12_rankTold_58 rfl ?_
          refine z_ishl (pc := 60) hR dX12_rankTold_60 ?_
          refine z_ior (pc := 61) hR dX12_rankTold_61 ?_
          refine z_let1 (fun v11 => ?_)
          refine z_istore_n (pc := 62) hR (lv' := [(3, 0, v11), (5, 0, v8), (0, 2, 0), (2, 0, x3), (4, 0, x5)]) dX12_rankTold_62 rfl (by decide) rfl ?_
          refine z_aload_n (pc := 63) hR 2 dX12_rankTold_63 rfl rfl ?_
          refine z_getr (pc := 64) hR (c0 := 13) (r := 13) jf_RX12_52 kmo_0 (by decide) rfl rfl dX12_rankTold_64 ?_
          refine z_iload (pc := 67) hR 4 dX12_rankTold_67 rfl ?_
          refine z_iload (pc := 69) hR 1 dX12_rankTold_69 rfl ?_
          refine z_chk (fun hc12 => ?_)
          refine z_iast (pc := 71) hR (n := 7) kma_13 hc12.1 hc12.2 dX12_rankTold_71 (fun M13 => ?_)
          refine z_iload_n (pc := 72) hR 3 dX12_rankTold_72 rfl rfl ?_
          refine z_bipush (pc := 73) hR dX12_rankTold_73 rfl ?_
          refine z_idiv (pc := 75) hR dX12_rankTold_75 (by decide) ?_
          refine z_let1 (fun v14 => ?_)
          refine z_istore_n (pc := 76) hR (lv' := [(2, 0, v14), (3, 0, v11), (5, 0, v8), (0, 2, 0), (4, 0, x5)]) dX12_rankTold_76 rfl (by decide) rfl ?_
          refine z_iinc (pc := 77) hR (j := 4) (lv' := [(4, 0, (w32 (x5 + (-1)))), (2, 0, v14), (3, 0, v11), (5, 0, v8), (0, 2, 0)]) dX12_rankTold_77 rfl (by decide) rfl ?_
          refine z_goto (pc := 80) (tgt := 23) hR dX12_rankTold_80 (by decide) ?_
          refine z_pick (pc := 23) (lv' := [(0, 2, 0), (2, 0, v14), (3, 0, v11), (4, 0, (w32 (x5 + (-1))))]) hR [4, 1, 2, 0] rfl ?_
          exact hh23 (v14, v11, (w32 (x5 + (-1))), M13)
        · refine z_iconst (pc := 54) hR dX12_rankTold_54 rfl ?_
          exact z_ireturn (pc := 55) hR rfl rfl dX12_rankTold_55 rfl
  · refine z_iconst (pc := 7) hR dX12_rankTold_7 rfl ?_
    exact z_ireturn (pc := 8) hR rfl rfl dX12_rankTold_8 rfl
theorem dX12_fewest_0 : decode cX12_fewest 0 = .ok (.aload_n 0, 1) := by decide +kernel
theorem dX12_fewest_1 : decode cX12_fewest 1 = .ok (.iload_n 1, 1) := by decide +kernel
theorem dX12_fewest_2 : decode cX12_fewest 2 = .ok (.invokevirtual 391, 3) := by decide +kernel
theorem dX12_fewest_5 : decode cX12_fewest 5 = .ok (.istore_n 2, 1) := by decide +kernel
theorem dX12_fewest_6 : decode cX12_fewest 6 = .ok (.iload_n 2, 1) := by decide +kernel
theorem dX12_fewest_7 : decode cX12_fewest 7 = .ok (.ifCond .ge 5, 3) := by decide +kernel
theorem dX12_fewest_10 : decode cX12_fewest 10 = .ok (.iconst (-1), 1) := by decide +kernel
theorem dX12_fewest_11 : decode cX12_fewest 11 = .ok (.ireturn, 1) := by decide +kernel
theorem dX12_fewest_12 : decode cX12_fewest 12 = .ok (.aload_n 0, 1) := by decide +kernel
theorem dX12_fewest_13 : decode cX12_fewest 13 = .ok (.iload_n 2, 1) := by decide +kernel
theorem dX12_fewest_14 : decode cX12_fewest 14 = .ok (.invokevirtual 394, 3) := by decide +kernel
theorem dX12_fewest_17 : decode cX12_fewest 17 = .ok (.aload_n 0, 1) := by decide +kernel
theorem dX12_fewest_18 : decode cX12_fewest 18 = .ok (.getfield 58, 3) := by decide +kernel
theorem dX12_fewest_21 : decode cX12_fewest 21 = .ok (.aload_n 0, 1) := by decide +kernel
theorem dX12_fewest_22 : decode cX12_fewest 22 = .ok (.invokevirtual 397, 3) := by decide +kernel
theorem dX12_fewest_25 : decode cX12_fewest 25 = .ok (.iaload, 1) := by decide +kernel
theorem dX12_fewest_26 : decode cX12_fewest 26 = .ok (.istore_n 3, 1) := by decide +kernel
theorem dX12_fewest_27 : decode cX12_fewest 27 = .ok (.iload_n 3, 1) := by decide +kernel
theorem dX12_fewest_28 : decode cX12_fewest 28 = .ok (.ifCond .ge 8, 3) := by decide +kernel
theorem dX12_fewest_31 : decode cX12_fewest 31 = .ok (.bipush (-2), 2) := by decide +kernel
theorem dX12_fewest_33 : decode cX12_fewest 33 = .ok (.goto 4, 3) := by decide +kernel
theorem dX12_fewest_36 : decode cX12_fewest 36 = .ok (.iload_n 3, 1) := by decide +kernel
theorem dX12_fewest_37 : decode cX12_fewest 37 = .ok (.ireturn, 1) := by decide +kernel
def m_fewest (N : Nat) (a1 : Int) (M : jMem) : Option (Int × jMem) := jb1 (m_rankTold N a1 M) fun r1 M2 => (if r1 < 0 then some ((-1), M2) else jbv (m_seeks N r1 M2) fun M3 => jb1 (m_rankNow N M3) fun r4 M5 => jchk (0 ≤ r4 ∧ r4 < 5040) <| jlt ((M5 15 r4)) fun v7 => (if v7 < 0 then some ((-2), M5) else some (v7, M5)))
theorem c_m_fewest {l : Launch} {g : jG} (N : Nat) (a1 : Int) (M : jMem)  : ∀ o, m_fewest N a1 M = some o → jCt l g jTM yX12_fewest cX12_fewest 4 (some .int) 0 9 [(2, 0), (0, a1)] M o := by
  refine jMet (own := RX12) (em := id) (L := [(0, 2, 0), (1, 0, a1)]) (by decide +kernel) rfl (Nat.le_of_ble_eq_true rfl) rfl (fun K hR => ?_)
  unfold m_fewest
  refine z_aload_n (pc := 0) hR 0 dX12_fewest_0 rfl rfl ?_
  refine z_iload_n (pc := 1) hR 1 dX12_fewest_1 rfl rfl ?_
  refine z_callv1 (pc := 2) hR (As := [(0, a1)]) (st := []) jm_X12_rankTold jl_RX12_391 kmo_0 (by decide) rfl (by decide) (c_m_rankTold N a1 M) rfl (by decide) (by decide) rfl (Nat.le_of_ble_eq_true rfl) dX12_fewest_2 (fun r1 M2 => ?_)
  refine z_istore_n (pc := 5) hR (lv' := [(2, 0, r1), (0, 2, 0), (1, 0, a1)]) dX12_fewest_5 rfl (by decide) rfl ?_
  refine z_iload_n (pc := 6) hR 0 dX12_fewest_6 rfl rfl ?_
  refine z_ifge (pc := 7) (tgt := 12) hR dX12_fewest_7 (by decide) ?_ ?_
  · refine z_aload_n (pc := 12) hR 1 dX12_fewest_12 rfl rfl ?_
    refine z_iload_n (pc := 13) hR 0 dX12_fewest_13 rfl rfl ?_
    refine z_callv0 (pc := 14) (rk' := 3) hR (As := [(0, r1)]) (st := []) jm_X12_seeks jl_RX12_394 kmo_0 (by decide) rfl (c_m_seeks N r1 M2) rfl (by decide) (by decide) rfl (Nat.le_of_ble_eq_true rfl) dX12_fewest_14 (fun M3 => ?_)
    refine z_aload_n (pc := 17) hR 1 dX12_fewest_17 rfl rfl ?_
    refine z_getr (pc := 18) hR (c0 := 15) (r := 15) jf_RX12_58 kmo_0 (by decide) rfl rfl dX12_fewest_18 ?_
    refine z_aload_n (pc := 21) hR 1 dX12_fewest_21 rfl rfl ?_
    refine z_callv1 (pc := 22) hR (As := []) (st := [(2, 15)]) jm_X12_rankNow jl_RX12_397 kmo_0 (by decide) rfl (by decide) (c_m_rankNow N M3) rfl (by decide) (by decide) rfl (Nat.le_of_ble_eq_true rfl) dX12_fewest_22 (fun r4 M5 => ?_)
    refine z_chk (fun hc6 => ?_)
    refine z_iald (pc := 25) hR (n := 5040) kma_15 hc6.1 hc6.2 dX12_fewest_25 ?_
    refine z_let1 (fun v7 => ?_)
    refine z_istore_n (pc := 26) hR (lv' := [(3, 0, v7), (2, 0, r1), (0, 2, 0), (1, 0, a1)]) dX12_fewest_26 rfl (by decide) rfl ?_
    refine z_iload_n (pc := 27) hR 0 dX12_fewest_27 rfl rfl ?_
    refine z_ifge (pc := 28) (tgt := 36) hR dX12_fewest_28 (by decide) ?_ ?_
    · refine z_iload_n (pc := 36) hR 0 dX12_fewest_36 rfl rfl ?_
      exact z_ireturn (pc := 37) hR rfl rfl dX12_fewest_37 rfl
    · refine z_bipush (pc := 31) hR dX12_fewest_31 rfl ?_
      refine z_goto (pc := 33) (tgt := 37) hR dX12_fewest_33 (by decide) ?_
      exact z_ireturn (pc := 37) hR rfl rfl dX12_fewest_37 rfl
  · refine z_iconst (pc := 10) hR dX12_fewest_10 rfl ?_
    exact z_ireturn (pc := 11) hR rfl rfl dX12_fewest_11 rfl
theorem dX12_nearer_0 : decode cX12_nearer 0 = .ok (.aload_n 0, 1) := by decide +kernel
theorem dX12_nearer_1 : decode cX12_nearer 1 = .ok (.iload_n 1, 1) := by decide +kernel
theorem dX12_nearer_2 : decode cX12_nearer 2 = .ok (.invokevirtual 379, 3) := by decide +kernel
theorem dX12_nearer_5 : decode cX12_nearer 5 = .ok (.iconst 0, 1) := by decide +kernel
theorem dX12_nearer_6 : decode cX12_nearer 6 = .ok (.istore_n 2, 1) := by decide +kernel
theorem dX12_nearer_7 : decode cX12_nearer 7 = .ok (.iload_n 2, 1) := by decide +kernel
theorem dX12_nearer_8 : decode cX12_nearer 8 = .ok (.aload_n 0, 1) := by decide +kernel
theorem dX12_nearer_9 : decode cX12_nearer 9 = .ok (.getfield 39, 3) := by decide +kernel
theorem dX12_nearer_12 : decode cX12_nearer 12 = .ok (.iconst 1, 1) := by decide +kernel
theorem dX12_nearer_13 : decode cX12_nearer 13 = .ok (.iaload, 1) := by decide +kernel
theorem dX12_nearer_14 : decode cX12_nearer 14 = .ok (.if_icmp .ge 83, 3) := by decide +kernel
theorem dX12_nearer_17 : decode cX12_nearer 17 = .ok (.iload_n 2, 1) := by decide +kernel
theorem dX12_nearer_18 : decode cX12_nearer 18 = .ok (.iconst 1, 1) := by decide +kernel
theorem dX12_nearer_19 : decode cX12_nearer 19 = .ok (.iadd, 1) := by decide +kernel
theorem dX12_nearer_20 : decode cX12_nearer 20 = .ok (.istore_n 3, 1) := by decide +kernel
theorem dX12_nearer_21 : decode cX12_nearer 21 = .ok (.iload_n 3, 1) := by decide +kernel
theorem dX12_nearer_22 : decode cX12_nearer 22 = .ok (.aload_n 0, 1) := by decide +kernel
theorem dX12_nearer_23 : decode cX12_nearer 23 = .ok (.getfield 39, 3) := by decide +kernel
theorem dX12_nearer_26 : decode cX12_nearer 26 = .ok (.iconst 1, 1) := by decide +kernel
theorem dX12_nearer_27 : decode cX12_nearer 27 = .ok (.iaload, 1) := by decide +kernel
theorem dX12_nearer_28 : decode cX12_nearer 28 = .ok (.if_icmp .ge 63, 3) := by decide +kernel
theorem dX12_nearer_31 : decode cX12_nearer 31 = .ok (.aload_n 0, 1) := by decide +kernel
theorem dX12_nearer_32 : decode cX12_nearer 32 = .ok (.iload_n 2, 1) := by decide +kernel
theorem dX12_nearer_33 : decode cX12_nearer 33 = .ok (.iload_n 3, 1) := by decide +kernel
theorem dX12_nearer_34 : decode cX12_nearer 34 = .ok (.invokevirtual 301, 3) := by decide +kernel
theorem dX12_nearer_37 : decode cX12_nearer 37 = .ok (.ifCond .ne 6, 3) := by decide +kernel
theorem dX12_nearer_40 : decode cX12_nearer 40 = .ok (.goto 45, 3) := by decide +kernel
theorem dX12_nearer_43 : decode cX12_nearer 43 = .ok (.aload_n 0, 1) := by decide +kernel
theorem dX12_nearer_44 : decode cX12_nearer 44 = .ok (.iload_n 2, 1) := by decide +kernel
theorem dX12_nearer_45 : decode cX12_nearer 45 = .ok (.iload_n 3, 1) := by decide +kernel
theorem dX12_nearer_46 : decode cX12_nearer 46 = .ok (.invokevirtual 388, 3) := by decide +kernel
theorem dX12_nearer_49 : decode cX12_nearer 49 = .ok (.istore 4, 2) := by decide +kernel
theorem dX12_nearer_51 : decode cX12_nearer 51 = .ok (.aload_n 0, 1) := by decide +kernel
theorem dX12_nearer_52 : decode cX12_nearer 52 = .ok (.getfield 58, 3) := by decide +kernel
theorem dX12_nearer_55 : decode cX12_nearer 55 = .ok (.iload 4, 2) := by decide +kernel
theorem dX12_nearer_57 : decode cX12_nearer 57 = .ok (.iaload, 1) := by decide +kernel
theorem dX12_nearer_58 : decode cX12_nearer 58 = .ok (.aload_n 0, 1) := by decide +kernel
theorem dX12_nearer_59 : decode cX12_nearer 59 = .ok (.getfield 58, 3) := by decide +kernel
theorem dX12_nearer_62 : decode cX12_nearer 62 = .ok (.iload_n 1, 1) := by decide +kernel
theorem dX12_nearer_63 : decode cX12_nearer 63 = .ok (.iaload, 1) := by decide +kernel
theorem dX12_nearer_64 : decode cX12_nearer 64 = .ok (.iconst 1, 1) := by decide +kernel
theorem dX12_nearer_65 : decode cX12_nearer 65 = .ok (.isub, 1) := by decide +kernel
theorem dX12_nearer_66 : decode cX12_nearer 66 = .ok (.if_icmp .eq 6, 3) := by decide +kernel
theorem dX12_nearer_69 : decode cX12_nearer 69 = .ok (.goto 16, 3) := by decide +kernel
theorem dX12_nearer_72 : decode cX12_nearer 72 = .ok (.aload_n 0, 1) := by decide +kernel
theorem dX12_nearer_73 : decode cX12_nearer 73 = .ok (.bipush 8, 2) := by decide +kernel
theorem dX12_nearer_75 : decode cX12_nearer 75 = .ok (.iload_n 2, 1) := by decide +kernel
theorem dX12_nearer_76 : decode cX12_nearer 76 = .ok (.imul, 1) := by decide +kernel
theorem dX12_nearer_77 : decode cX12_nearer 77 = .ok (.iload_n 3, 1) := by decide +kernel
theorem dX12_nearer_78 : decode cX12_nearer 78 = .ok (.iadd, 1) := by decide +kernel
theorem dX12_nearer_79 : decode cX12_nearer 79 = .ok (.putfield 400, 3) := by decide +kernel
theorem dX12_nearer_82 : decode cX12_nearer 82 = .ok (.iload 4, 2) := by decide +kernel
theorem dX12_nearer_84 : decode cX12_nearer 84 = .ok (.ireturn, 1) := by decide +kernel
theorem dX12_nearer_85 : decode cX12_nearer 85 = .ok (.iinc 3 1, 3) := by decide +kernel
theorem dX12_nearer_88 : decode cX12_nearer 88 = .ok (.goto (-67), 3) := by decide +kernel
theorem dX12_nearer_91 : decode cX12_nearer 91 = .ok (.iinc 2 1, 3) := by decide +kernel
theorem dX12_nearer_94 : decode cX12_nearer 94 = .ok (.goto (-87), 3) := by decide +kernel
theorem dX12_nearer_97 : decode cX12_nearer 97 = .ok (.iconst (-1), 1) := by decide +kernel
theorem dX12_nearer_98 : decode cX12_nearer 98 = .ok (.ireturn, 1) := by decide +kernel
def m_nearer_L21 (N : Nat) (a1 : Int) (x2 : Int) (h7 : (Int × jMem) → Option (Int × jMem)) (h21 : (Int × jMem) → Option (Int × jMem)) : Int × jMem → Option (Int × jMem)
  | (x5, M6) => (if x5 < (M6 10 1) then (m_isKin N x2 x5 M6).bind fun r7 => (if r7 = 0 then h21 ((w32 (x5 + 1)), M6) else jb1 (m_rankBy N x2 x5 M6) fun r8 M9 => jchk (0 ≤ r8 ∧ r8 < 5040) <| jchk (0 ≤ a1 ∧ a1 < 5040) <| (if (M9 15 r8) = (w32 (((M9 15 a1)) - 1)) then jlt (up M9 0 32 ((w32 (((w32 (8 * x2))) + x5)))) fun M12 => some (r8, M12) else h21 ((w32 (x5 + 1)), M9))) else h7 ((w32 (x2 + 1)), M6))
def m_nearer_L7 (N : Nat) (a1 : Int) (h7 : (Int × jMem) → Option (Int × jMem)) : Int × jMem → Option (Int × jMem)
  | (x2, M3) => (if x2 < (M3 10 1) then jlt ((w32 (x2 + 1))) fun v4 => jfix N (m_nearer_L21 N a1 x2 h7) (v4, M3) else some ((-1), M3))
def m_nearer (N : Nat) (a1 : Int) (M : jMem) : Option (Int × jMem) := jbv (m_rowOf N a1 M) fun M1 => jfix N (m_nearer_L7 N a1) (0, M1)
theorem c_m_nearer {l : Launch} {g : jG} (N : Nat) (a1 : Int) (M : jMem)  : ∀ o, m_nearer N a1 M = some o → jCt l g jTM yX12_nearer cX12_nearer 5 (some .int) 0 7 [(2, 0), (0, a1)] M o := by
  refine jMet (own := RX12) (em := id) (L := [(0, 2, 0), (1, 0, a1)]) (by decide +kernel) rfl (Nat.le_of_ble_eq_true rfl) rfl (fun K hR => ?_)
  unfold m_nearer
  refine z_aload_n (pc := 0) hR 0 dX12_nearer_0 rfl rfl ?_
  refine z_iload_n (pc := 1) hR 1 dX12_nearer_1 rfl rfl ?_
  refine z_callv0 (pc := 2) (rk' := 3) hR (As := [(0, a1)]) (st := []) jm_X12_rowOf jl_RX12_379 kmo_0 (by decide) rfl (c_m_rowOf N a1 M) rfl (by decide) (by decide) rfl (Nat.le_of_ble_eq_true rfl) dX12_nearer_2 (fun M1 => ?_)
  refine z_iconst (pc := 5) hR dX12_nearer_5 rfl ?_
  refine z_istore_n (pc := 6) hR (lv' := [(2, 0, 0), (0, 2, 0), (1, 0, a1)]) dX12_nearer_6 rfl (by decide) rfl ?_
  refine z_pick (pc := 7) (lv' := [(0, 2, 0), (1, 0, a1), (2, 0, 0)]) hR [1, 2, 0] rfl ?_
  refine z_fix (σ := Int × jMem) (lv := fun s => [(0, 2, 0), (1, 0, a1), (2, 0, s.1)]) (st := fun _ => []) (M := fun s => s.2) (fun h7 hh7 => ?_) N (0, M1)
  rintro ⟨x2, M3⟩
  show jZ K id 7 [(0, 2, 0), (1, 0, a1), (2, 0, x2)] [] M3 _
  unfold m_nearer_L7
  refine z_iload_n (pc := 7) hR 2 dX12_nearer_7 rfl rfl ?_
  refine z_aload_n (pc := 8) hR 0 dX12_nearer_8 rfl rfl ?_
  refine z_getr (pc := 9) hR (c0 := 10) (r := 10) jf_RX12_39 kmo_0 (by decide) rfl rfl dX12_nearer_9 ?_
  refine z_iconst (pc := 12) hR dX12_nearer_12 rfl ?_
  refine z_iald (pc := 13) hR (n := 112) kma_10 (by decide) (by decide) dX12_nearer_13 ?_
  refine z_icmpge (pc := 14) (tgt := 97) hR dX12_nearer_14 (by decide) ?_ ?_
  · refine z_iconst (pc := 97) hR dX12_nearer_97 rfl ?_
    exact z_ireturn (pc := 98) hR rfl rfl dX12_nearer_98 rfl
  · refine z_iload_n (pc := 17) hR 2 dX12_nearer_17 rfl rfl ?_
    refine z_iconst (pc := 18) hR dX12_nearer_18 rfl ?_
    refine z_iadd (pc := 19) hR dX12_nearer_19 ?_
    refine z_let1 (fun v4 => ?_)
    refine z_istore_n (pc := 20) hR (lv' := [(3, 0, v4), (0, 2, 0), (1, 0, a1), (2, 0, x2)]) dX12_nearer_20 rfl (by decide) rfl ?_
    refine z_pick (pc := 21) (lv' := [(0, 2, 0), (1, 0, a1), (2, 0, x2), (3, 0, v4)]) hR [1, 2, 3, 0] rfl ?_
    refine z_fix (σ := Int × jMem) (lv := fun s => [(0, 2, 0), (1, 0, a1), (2, 0, x2), (3, 0, s.1)]) (st := fun _ => []) (M := fun s => s.2) (fun h21 hh21 => ?_) N (v4, M3)
    rintro ⟨x5, M6⟩
    show jZ K id 21 [(0, 2, 0), (1, 0, a1), (2, 0, x2), (3, 0, x5)] [] M6 _
    unfold m_nearer_L21
    refine z_iload_n (pc := 21) hR 3 dX12_nearer_21 rfl rfl ?_
    refine z_aload_n (pc := 22) hR 0 dX12_nearer_22 rfl rfl ?_
    refine z_getr (pc := 23) hR (c0 := 10) (r := 10) jf_RX12_39 kmo_0 (by decide) rfl rfl dX12_nearer_23 ?_
    refine z_iconst (pc := 26) hR dX12_nearer_26 rfl ?_
    refine z_iald (pc := 27) hR (n := 112) kma_10 (by decide) (by decide) dX12_nearer_27 ?_
    refine z_icmpge (pc := 28) (tgt := 91) hR dX12_nearer_28 (by decide) ?_ ?_
    · refine z_iinc (pc := 91) hR (j := 2) (lv' := [(2, 0, (w32 (x2 + 1))), (0, 2, 0), (1, 0, a1), (3, 0, x5)]) dX12_nearer_91 rfl (by decide) rfl ?_
      refine z_goto (pc := 94) (tgt := 7) hR dX12_nearer_94 (by decide) ?_
      refine z_pick (pc := 7) (lv' := [(0, 2, 0), (1, 0, a1), (2, 0, (w32 (x2 + 1)))]) hR [1, 2, 0] rfl ?_
      exact hh7 ((w32 (x2 + 1)), M6)
    · refine z_aload_n (pc := 31) hR 0 dX12_nearer_31 rfl rfl ?_
      refine z_iload_n (pc := 32) hR 2 dX12_nearer_32 rfl rfl ?_
      refine z_iload_n (pc := 33) hR 3 dX12_nearer_33 rfl rfl ?_
      refine z_callvp (pc := 34) hR (As := [(0, x2), (0, x5)]) (st := []) jm_X12_isKin jl_RX12_301 kmo_0 (by decide) rfl (by decide) (c_m_isKin N x2 x5 M6) rfl (by decide) (by decide) rfl (Nat.le_of_ble_eq_true rfl) dX12_nearer_34 (fun r7 => ?_)
      refine z_ifne (pc := 37) (tgt := 43) hR dX12_nearer_37 (by decide) ?_ ?_
      · refine z_aload_n (pc := 43) hR 0 dX12_nearer_43 rfl rfl ?_
        refine z_iload_n (pc := 44) hR 2 dX12_nearer_44 rfl rfl ?_
        refine z_iload_n (pc := 45) hR 3 dX12_nearer_45 rfl rfl ?_
        refine z_callv1 (pc := 46) hR (As := [(0, x2), (0, x5)]) (st := []) jm_X12_rankBy jl_RX12_388 kmo_0 (by decide) rfl (by decide) (c_m_rankBy N x2 x5 M6) rfl (by decide) (by decide) rfl (Nat.le_of_ble_eq_true rfl) dX12_nearer_46 (fun r8 M9 => ?_)
        refine z_istore (pc := 49) hR (lv' := [(4, 0, r8), (0, 2, 0), (1, 0, a1), (2, 0, x2), (3, 0, x5)]) dX12_nearer_49 (by decide) rfl ?_
        refine z_aload_n (pc := 51) hR 1 dX12_nearer_51 rfl rfl ?_
        refine z_getr (pc := 52) hR (c0 := 15) (r := 15) jf_RX12_58 kmo_0 (by decide) rfl rfl dX12_nearer_52 ?_
        refine z_iload (pc := 55) hR 0 dX12_nearer_55 rfl ?_
        refine z_chk (fun hc10 => ?_)
        refine z_iald (pc := 57) hR (n := 5040) kma_15 hc10.1 hc10.2 dX12_nearer_57 ?_
        refine z_aload_n (pc := 58) hR 1 dX12_nearer_58 rfl rfl ?_
        refine z_getr (pc := 59) hR (c0 := 15) (r := 15) jf_RX12_58 kmo_0 (by decide) rfl rfl dX12_nearer_59 ?_
        refine z_iload_n (pc := 62) hR 2 dX12_nearer_62 rfl rfl ?_
        refine z_chk (fun hc11 => ?_)
        refine z_iald (pc := 63) hR (n := 5040) kma_15 hc11.1 hc11.2 dX12_nearer_63 ?_
        refine z_iconst (pc := 64) hR dX12_nearer_64 rfl ?_
        refine z_isub (pc := 65) hR dX12_nearer_65 ?_
        refine z_icmpeq (pc := 66) (tgt := 72) hR dX12_nearer_66 (by decide) ?_ ?_
        · refine z_aload_n (pc := 72) hR 1 dX12_nearer_72 rfl rfl ?_
          refine z_bipush (pc := 73) hR dX12_nearer_73 rfl ?_
          refine z_iload_n (pc := 75) hR 3 dX12_nearer_75 rfl rfl ?_
          refine z_imul (pc := 76) hR dX12_nearer_76 ?_
          refine z_iload_n (pc := 77) hR 4 dX12_nearer_77 rfl rfl ?_
          refine z_iadd (pc := 78) hR dX12_nearer_78 ?_
          refine z_puti (pc := 79) hR (j := 32) jp_RX12_400 kmo_0 (by decide) rfl rfl rfl rfl dX12_nearer_79 (fun M12 => ?_)
          refine z_iload (pc := 82) hR 0 dX12_nearer_82 rfl ?_
          exact z_ireturn (pc := 84) hR rfl rfl dX12_nearer_84 rfl
        · refine z_goto (pc := 69) (tgt := 85) hR dX12_nearer_69 (by decide) ?_
          refine z_iinc (pc := 85) hR (j := 4) (lv' := [(3, 0, (w32 (x5 + 1))), (4, 0, r8), (0, 2, 0), (1, 0, a1), (2, 0, x2)]) dX12_nearer_85 rfl (by decide) rfl ?_
          refine z_goto (pc := 88) (tgt := 21) hR dX12_nearer_88 (by decide) ?_
          refine z_pick (pc := 21) (lv' := [(0, 2, 0), (1, 0, a1), (2, 0, x2), (3, 0, (w32 (x5 + 1)))]) hR [2, 3, 4, 0] rfl ?_
          exact hh21 ((w32 (x5 + 1)), M9)
      · refine z_goto (pc := 40) (tgt := 85) hR dX12_nearer_40 (by decide) ?_
        refine z_iinc (pc := 85) hR (j := 3) (lv' := [(3, 0, (w32 (x5 + 1))), (0, 2, 0), (1, 0, a1), (2, 0, x2)]) dX12_nearer_85 rfl (by decide) rfl ?_
        refine z_goto (pc := 88) (tgt := 21) hR dX12_nearer_88 (by decide) ?_
        refine z_pick (pc := 21) (lv' := [(0, 2, 0), (1, 0, a1), (2, 0, x2), (3, 0, (w32 (x5 + 1)))]) hR [1, 2, 3, 0] rfl ?_
        exact hh21 ((w32 (x5 + 1)), M6)
theorem dX12_step_0 : decode cX12_step 0 = .ok (.aload_n 0, 1) := by decide +kernel
theorem dX12_step_1 : decode cX12_step 1 = .ok (.iload_n 1, 1) := by decide +kernel
theorem dX12_step_2 : decode cX12_step 2 = .ok (.invokevirtual 391, 3) := by decide +kernel
theorem dX12_step_5 : decode cX12_step 5 = .ok (.istore 4, 2) := by decide +kernel
theorem dX12_step_7 : decode cX12_step 7 = .ok (.iload 4, 2) := by decide +kernel
theorem dX12_step_9 : decode cX12_step 9 = .ok (.ifCond .lt 17, 3) := by decide +kernel
theorem dX12_step_12 : decode cX12_step 12 = .ok (.iload_n 2, 1) := by decide +kernel
theorem dX12_step_13 : decode cX12_step 13 = .ok (.ifCond .lt 13, 3) := by decide +kernel
theorem dX12_step_16 : decode cX12_step 16 = .ok (.iload_n 3, 1) := by decide +kernel
theorem dX12_step_17 : decode cX12_step 17 = .ok (.i2l, 1) := by decide +kernel
theorem dX12_step_18 : decode cX12_step 18 = .ok (.lconst 0, 1) := by decide +kernel
theorem dX12_step_19 : decode cX12_step 19 = .ok (.lconst 1, 1) := by decide +kernel
theorem dX12_step_20 : decode cX12_step 20 = .ok (.invokestatic 127, 3) := by decide +kernel
theorem dX12_step_23 : decode cX12_step 23 = .ok (.ifCond .ne 5, 3) := by decide +kernel
theorem dX12_step_26 : decode cX12_step 26 = .ok (.iconst (-1), 1) := by decide +kernel
theorem dX12_step_27 : decode cX12_step 27 = .ok (.ireturn, 1) := by decide +kernel
theorem dX12_step_28 : decode cX12_step 28 = .ok (.aload_n 0, 1) := by decide +kernel
theorem dX12_step_29 : decode cX12_step 29 = .ok (.iload 4, 2) := by decide +kernel
theorem dX12_step_31 : decode cX12_step 31 = .ok (.invokevirtual 394, 3) := by decide +kernel
theorem dX12_step_34 : decode cX12_step 34 = .ok (.aload_n 0, 1) := by decide +kernel
theorem dX12_step_35 : decode cX12_step 35 = .ok (.invokevirtual 397, 3) := by decide +kernel
theorem dX12_step_38 : decode cX12_step 38 = .ok (.istore 5, 2) := by decide +kernel
theorem dX12_step_40 : decode cX12_step 40 = .ok (.aload_n 0, 1) := by decide +kernel
theorem dX12_step_41 : decode cX12_step 41 = .ok (.getfield 58, 3) := by decide +kernel
theorem dX12_step_44 : decode cX12_step 44 = .ok (.iload 5, 2) := by decide +kernel
theorem dX12_step_46 : decode cX12_step 46 = .ok (.iaload, 1) := by decide +kernel
theorem dX12_step_47 : decode cX12_step 47 = .ok (.ifCond .lt 14, 3) := by decide +kernel
theorem dX12_step_50 : decode cX12_step 50 = .ok (.iload_n 2, 1) := by decide +kernel
theorem dX12_step_51 : decode cX12_step 51 = .ok (.aload_n 0, 1) := by decide +kernel
theorem dX12_step_52 : decode cX12_step 52 = .ok (.getfield 58, 3) := by decide +kernel
theorem dX12_step_55 : decode cX12_step 55 = .ok (.iload 5, 2) := by decide +kernel
theorem dX12_step_57 : decode cX12_step 57 = .ok (.iaload, 1) := by decide +kernel
theorem dX12_step_58 : decode cX12_step 58 = .ok (.if_icmp .lt 6, 3) := by decide +kernel
theorem dX12_step_61 : decode cX12_step 61 = .ok (.bipush (-2), 2) := by decide +kernel
theorem dX12_step_63 : decode cX12_step 63 = .ok (.ireturn, 1) := by decide +kernel
theorem dX12_step_64 : decode cX12_step 64 = .ok (.iconst 0, 1) := by decide +kernel
theorem dX12_step_65 : decode cX12_step 65 = .ok (.istore 6, 2) := by decide +kernel
theorem dX12_step_67 : decode cX12_step 67 = .ok (.iload 6, 2) := by decide +kernel
theorem dX12_step_69 : decode cX12_step 69 = .ok (.iload_n 2, 1) := by decide +kernel
theorem dX12_step_70 : decode cX12_step 70 = .ok (.if_icmp .gt 17, 3) := by decide +kernel
theorem dX12_step_73 : decode cX12_step 73 = .ok (.aload_n 0, 1) := by decide +kernel
theorem dX12_step_74 : decode cX12_step 74 = .ok (.iload 5, 2) := by decide +kernel
theorem dX12_step_76 : decode cX12_step 76 = .ok (.invokevirtual 403, 3) := by decide +kernel
theorem dX12_step_79 : decode cX12_step 79 = .ok (.istore 5, 2) := by decide +kernel
theorem dX12_step_81 : decode cX12_step 81 = .ok (.iinc 6 1, 3) := by decide +kernel
theorem dX12_step_84 : decode cX12_step 84 = .ok (.goto (-17), 3) := by decide +kernel
theorem dX12_step_87 : decode cX12_step 87 = .ok (.iload_n 3, 1) := by decide +kernel
theorem dX12_step_88 : decode cX12_step 88 = .ok (.ifCond .ne 13, 3) := by decide +kernel
theorem dX12_step_91 : decode cX12_step 91 = .ok (.aload_n 0, 1) := by decide +kernel
theorem dX12_step_92 : decode cX12_step 92 = .ok (.getfield 400, 3) := by decide +kernel
theorem dX12_step_95 : decode cX12_step 95 = .ok (.bipush 8, 2) := by decide +kernel
theorem dX12_step_97 : decode cX12_step 97 = .ok (.idiv, 1) := by decide +kernel
theorem dX12_step_98 : decode cX12_step 98 = .ok (.goto 10, 3) := by decide +kernel
theorem dX12_step_101 : decode cX12_step 101 = .ok (.aload_n 0, 1) := by decide +kernel
theorem dX12_step_102 : decode cX12_step 102 = .ok (.getfield 400, 3) := by decide +kernel
theorem dX12_step_105 : decode cX12_step 105 = .ok (.bipush 8, 2) := by decide +kernel
theorem dX12_step_107 : decode cX12_step 107 = .ok (.irem, 1) := by decide +kernel
theorem dX12_step_108 : decode cX12_step 108 = .ok (.ireturn, 1) := by decide +kernel
def m_step_L67 (N : Nat) (a2 : Int) (a3 : Int) (h67 : (Int × Int × jMem) → Option (Int × jMem)) : Int × Int × jMem → Option (Int × jMem)
  | (x9, x10, M11) => (if a2 < x10 then (if a3 = 0 then some ((w32 (((M11 0 32)).tdiv 8)), M11) else some ((((M11 0 32)).tmod 8), M11)) else jb1 (m_nearer N x9 M11) fun r12 M13 => h67 (r12, (w32 (x10 + 1)), M13))
def m_step (N : Nat) (a1 a2 a3 : Int) (M : jMem) : Option (Int × jMem) := jb1 (m_rankTold N a1 M) fun r1 M2 => (if r1 < 0 then some ((-1), M2) else (if a2 < 0 then some ((-1), M2) else (m_in N a3 0 1 M2).bind fun r3 => (if r3 = 0 then some ((-1), M2) else jbv (m_seeks N r1 M2) fun M4 => jb1 (m_rankNow N M4) fun r5 M6 => jchk (0 ≤ r5 ∧ r5 < 5040) <| (if (M6 15 r5) < 0 then some ((-2), M6) else jchk (0 ≤ r5 ∧ r5 < 5040) <| (if a2 < (M6 15 r5) then jfix N (m_step_L67 N a2 a3) (r5, 0, M6) else some ((-2), M6))))))
theorem c_m_step {l : Launch} {g : jG} (N : Nat) (a1 a2 a3 : Int) (M : jMem)  : ∀ o, m_step N a1 a2 a3 M = some o → jCt l g jTM yX12_step cX12_step 7 (some .int) 0 9 [(2, 0), (0, a1), (0, a2), (0, a3)] M o := by
  refine jMet (own := RX12) (em := id) (L := [(0, 2, 0), (1, 0, a1), (2, 0, a2), (3, 0, a3)]) (by decide +kernel) rfl (Nat.le_of_ble_eq_true rfl) rfl (fun K hR => ?_)
  unfold m_step
  refine z_aload_n (pc := 0) hR 0 dX12_step_0 rfl rfl ?_
  refine z_iload_n (pc := 1) hR 1 dX12_step_1 rfl rfl ?_
  refine z_callv1 (pc := 2) hR (As := [(0, a1)]) (st := []) jm_X12_rankTold jl_RX12_391 kmo_0 (by decide) rfl (by decide) (c_m_rankTold N a1 M) rfl (by decide) (by decide) rfl (Nat.le_of_ble_eq_true rfl) dX12_step_2 (fun r1 M2 => ?_)
  refine z_istore (pc := 5) hR (lv' := [(4, 0, r1), (0, 2, 0), (1, 0, a1), (2, 0, a2), (3, 0, a3)]) dX12_step_5 (by decide) rfl ?_
  refine z_iload (pc := 7) hR 0 dX12_step_7 rfl ?_
  refine z_iflt (pc := 9) (tgt := 26) hR dX12_step_9 (by decide) ?_ ?_
  · refine z_iconst (pc := 26) hR dX12_step_26 rfl ?_
    exact z_ireturn (pc := 27) hR rfl rfl dX12_step_27 rfl
  · refine z_iload_n (pc := 12) hR 3 dX12_step_12 rfl rfl ?_
    refine z_iflt (pc := 13) (tgt := 26) hR dX12_step_13 (by decide) ?_ ?_
    · refine z_iconst (pc := 26) hR dX12_step_26 rfl ?_
      exact z_ireturn (pc := 27) hR rfl rfl dX12_step_27 rfl
    · refine z_iload_n (pc := 16) hR 4 dX12_step_16 rfl rfl ?_
      refine z_i2l (pc := 17) hR dX12_step_17 ?_
      refine z_lconst (pc := 18) hR (x := 0) dX12_step_18 rfl ?_
      refine z_lconst (pc := 19) hR (x := 1) dX12_step_19 rfl ?_
      refine z_callsp (pc := 20) hR (As := [(1, a3), (1, 0), (1, 1)]) (st := []) jm_X12_in jl_RX12_127 (by decide) (c_m_in N a3 0 1 M2) rfl (by decide) (by decide) rfl (Nat.le_of_ble_eq_true rfl) dX12_step_20 (fun r3 => ?_)
      refine z_ifne (pc := 23) (tgt := 28) hR dX12_step_23 (by decide) ?_ ?_
      · refine z_aload_n (pc := 28) hR 1 dX12_step_28 rfl rfl ?_
        refine z_iload (pc := 29) hR 0 dX12_step_29 rfl ?_
        refine z_callv0 (pc := 31) (rk' := 3) hR (As := [(0, r1)]) (st := []) jm_X12_seeks jl_RX12_394 kmo_0 (by decide) rfl (c_m_seeks N r1 M2) rfl (by decide) (by decide) rfl (Nat.le_of_ble_eq_true rfl) dX12_step_31 (fun M4 => ?_)
        refine z_aload_n (pc := 34) hR 1 dX12_step_34 rfl rfl ?_
        refine z_callv1 (pc := 35) hR (As := []) (st := []) jm_X12_rankNow jl_RX12_397 kmo_0 (by decide) rfl (by decide) (c_m_rankNow N M4) rfl (by decide) (by decide) rfl (Nat.le_of_ble_eq_true rfl) dX12_step_35 (fun r5 M6 => ?_)
        refine z_istore (pc := 38) hR (lv' := [(5, 0, r5), (4, 0, r1), (0, 2, 0), (1, 0, a1), (2, 0, a2), (3, 0, a3)]) dX12_step_38 (by decide) rfl ?_
        refine z_aload_n (pc := 40) hR 2 dX12_step_40 rfl rfl ?_
        refine z_getr (pc := 41) hR (c0 := 15) (r := 15) jf_RX12_58 kmo_0 (by decide) rfl rfl dX12_step_41 ?_
        refine z_iload (pc := 44) hR 0 dX12_step_44 rfl ?_
        refine z_chk (fun hc7 => ?_)
        refine z_iald (pc := 46) hR (n := 5040) kma_15 hc7.1 hc7.2 dX12_step_46 ?_
        refine z_iflt (pc := 47) (tgt := 61) hR dX12_step_47 (by decide) ?_ ?_
        · refine z_bipush (pc := 61) hR dX12_step_61 rfl ?_
          exact z_ireturn (pc := 63) hR rfl rfl dX12_step_63 rfl
        · refine z_iload_n (pc := 50) hR 4 dX12_step_50 rfl rfl ?_
          refine z_aload_n (pc := 51) hR 2 dX12_step_51 rfl rfl ?_
          refine z_getr (pc := 52) hR (c0 := 15) (r := 15) jf_RX12_58 kmo_0 (by decide) rfl rfl dX12_step_52 ?_
          refine z_iload (pc := 55) hR 0 dX12_step_55 rfl ?_
          refine z_chk (fun hc8 => ?_)
          refine z_iald (pc := 57) hR (n := 5040) kma_15 hc8.1 hc8.2 dX12_step_57 ?_
          refine z_icmplt (pc := 58) (tgt := 64) hR dX12_step_58 (by decide) ?_ ?_
          · refine z_iconst (pc := 64) hR dX12_step_64 rfl ?_
            refine z_istore (pc := 65) hR (lv' := [(6, 0, 0), (5, 0, r5), (4, 0, r1), (0, 2, 0), (1, 0, a1), (2, 0, a2), (3, 0, a3)]) dX12_step_65 (by decide) rfl ?_
            refine z_pick (pc := 67) (lv' := [(0, 2, 0), (2, 0, a2), (3, 0, a3), (5, 0, r5), (6, 0, 0)]) hR [3, 5, 6, 1, 0] rfl ?_
            refine z_fix (σ := Int × Int × jMem) (lv := fun s => [(0, 2, 0), (2, 0, a2), (3, 0, a3), (5, 0, s.1), (6, 0, s.2.1)]) (st := fun _ => []) (M := fun s => s.2.2) (fun h67 hh67 => ?_) N (r5, 0, M6)
            rintro ⟨x9, x10, M11⟩
            show jZ K id 67 [(0, 2, 0), (2, 0, a2), (3, 0, a3), (5, 0, x9), (6, 0, x10)] [] M11 _
            unfold m_step_L67
            refine z_iload (pc := 67) hR 4 dX12_step_67 rfl ?_
            refine z_iload_n (pc := 69) hR 1 dX12_step_69 rfl rfl ?_
            refine z_icmpgt (pc := 70) (tgt := 87) hR dX12_step_70 (by decide) ?_ ?_
            · refine z_iload_n (pc := 87) hR 2 dX12_step_87 rfl rfl ?_
              refine z_ifne (pc := 88) (tgt := 101) hR dX12_step_88 (by decide) ?_ ?_
              · refine z_aload_n (pc := 101) hR 0 dX12_step_101 rfl rfl ?_
                refine z_geti (pc := 102) hR (j := 32) jf_RX12_400 kmo_0 (by decide) rfl rfl dX12_step_102 ?_
                refine z_bipush (pc := 105) hR dX12_step_105 rfl ?_
                refine z_irem (pc := 107) hR dX12_step_107 (by decide) ?_
                exact z_ireturn (pc := 108) hR rfl rfl dX12_step_108 rfl
              · refine z_aload_n (pc := 91) hR 0 dX12_step_91 rfl rfl ?_
                refine z_geti (pc := 92) hR (j := 32) jf_RX12_400 kmo_0 (by decide) rfl rfl dX12_step_92 ?_
                refine z_bipush (pc := 95) hR dX12_step_95 rfl ?_
                refine z_idiv (pc := 97) hR dX12_step_97 (by decide) ?_
                refine z_goto (pc := 98) (tgt := 108) hR dX12_step_98 (by decide) ?_
                exact z_ireturn (pc := 108) hR rfl rfl dX12_step_108 rfl
            · refine z_aload_n (pc := 73) hR 0 dX12_step_73 rfl rfl ?_
              refine z_iload (pc := 74) hR 3 dX12_step_74 rfl ?_
              refine z_callv1 (pc := 76) hR (As := [(0, x9)]) (st := []) jm_X12_nearer jl_RX12_403 kmo_0 (by decide) rfl (by decide) (c_m_nearer N x9 M11) rfl (by decide) (by decide) rfl (Nat.le_of_ble_eq_true rfl) dX12_step_76 (fun r12 M13 => ?_)
              refine z_istore (pc := 79) hR (lv' := [(5, 0, r12), (0, 2, 0), (2, 0, a2), (3, 0, a3), (6, 0, x10)]) dX12_step_79 (by decide) rfl ?_
              refine z_iinc (pc := 81) hR (j := 4) (lv' := [(6, 0, (w32 (x10 + 1))), (5, 0, r12), (0, 2, 0), (2, 0, a2), (3, 0, a3)]) dX12_step_81 rfl (by decide) rfl ?_
              refine z_goto (pc := 84) (tgt := 67) hR dX12_step_84 (by decide) ?_
              refine z_pick (pc := 67) (lv' := [(0, 2, 0), (2, 0, a2), (3, 0, a3), (5, 0, r12), (6, 0, (w32 (x10 + 1)))]) hR [2, 3, 4, 1, 0] rfl ?_
              exact hh67 (r12, (w32 (x10 + 1)), M13)
          · refine z_bipush (pc := 61) hR dX12_step_61 rfl ?_
            exact z_ireturn (pc := 63) hR rfl rfl dX12_step_63 rfl
      · refine z_iconst (pc := 26) hR dX12_step_26 rfl ?_
        exact z_ireturn (pc := 27) hR rfl rfl dX12_step_27 rfl
