theorem dX12_tested_0 : decode cX12_tested 0 = .ok (.aload_n 0, 1) := by decide +kernel
theorem dX12_tested_1 : decode cX12_tested 1 = .ok (.iconst 0, 1) := by decide +kernel
theorem dX12_tested_2 : decode cX12_tested 2 = .ok (.putfield 164, 3) := by decide +kernel
theorem dX12_tested_5 : decode cX12_tested 5 = .ok (.aload_n 0, 1) := by decide +kernel
theorem dX12_tested_6 : decode cX12_tested 6 = .ok (.iconst 0, 1) := by decide +kernel
theorem dX12_tested_7 : decode cX12_tested 7 = .ok (.putfield 161, 3) := by decide +kernel
theorem dX12_tested_10 : decode cX12_tested 10 = .ok (.iconst 1, 1) := by decide +kernel
theorem dX12_tested_11 : decode cX12_tested 11 = .ok (.istore_n 1, 1) := by decide +kernel
theorem dX12_tested_12 : decode cX12_tested 12 = .ok (.iload_n 1, 1) := by decide +kernel
theorem dX12_tested_13 : decode cX12_tested 13 = .ok (.ifCond .eq 99, 3) := by decide +kernel
theorem dX12_tested_16 : decode cX12_tested 16 = .ok (.aload_n 0, 1) := by decide +kernel
theorem dX12_tested_17 : decode cX12_tested 17 = .ok (.invokevirtual 209, 3) := by decide +kernel
theorem dX12_tested_20 : decode cX12_tested 20 = .ok (.ifCond .ne 5, 3) := by decide +kernel
theorem dX12_tested_23 : decode cX12_tested 23 = .ok (.iconst 0, 1) := by decide +kernel
theorem dX12_tested_24 : decode cX12_tested 24 = .ok (.ireturn, 1) := by decide +kernel
theorem dX12_tested_25 : decode cX12_tested 25 = .ok (.aload_n 0, 1) := by decide +kernel
theorem dX12_tested_26 : decode cX12_tested 26 = .ok (.invokevirtual 212, 3) := by decide +kernel
theorem dX12_tested_29 : decode cX12_tested 29 = .ok (.aload_n 0, 1) := by decide +kernel
theorem dX12_tested_30 : decode cX12_tested 30 = .ok (.ldc2_w 215, 3) := by decide +kernel
theorem dX12_tested_33 : decode cX12_tested 33 = .ok (.invokevirtual 110, 3) := by decide +kernel
theorem dX12_tested_36 : decode cX12_tested 36 = .ok (.ifCond .ne 13, 3) := by decide +kernel
theorem dX12_tested_39 : decode cX12_tested 39 = .ok (.aload_n 0, 1) := by decide +kernel
theorem dX12_tested_40 : decode cX12_tested 40 = .ok (.ldc2_w 217, 3) := by decide +kernel
theorem dX12_tested_43 : decode cX12_tested 43 = .ok (.invokevirtual 110, 3) := by decide +kernel
theorem dX12_tested_46 : decode cX12_tested 46 = .ok (.ifCond .eq 7, 3) := by decide +kernel
theorem dX12_tested_49 : decode cX12_tested 49 = .ok (.iconst 1, 1) := by decide +kernel
theorem dX12_tested_50 : decode cX12_tested 50 = .ok (.goto 4, 3) := by decide +kernel
theorem dX12_tested_53 : decode cX12_tested 53 = .ok (.iconst 0, 1) := by decide +kernel
theorem dX12_tested_54 : decode cX12_tested 54 = .ok (.istore_n 1, 1) := by decide +kernel
theorem dX12_tested_55 : decode cX12_tested 55 = .ok (.iload_n 1, 1) := by decide +kernel
theorem dX12_tested_56 : decode cX12_tested 56 = .ok (.ifCond .eq (-44), 3) := by decide +kernel
theorem dX12_tested_59 : decode cX12_tested 59 = .ok (.aload_n 0, 1) := by decide +kernel
theorem dX12_tested_60 : decode cX12_tested 60 = .ok (.ldc2_w 215, 3) := by decide +kernel
theorem dX12_tested_63 : decode cX12_tested 63 = .ok (.invokevirtual 110, 3) := by decide +kernel
theorem dX12_tested_66 : decode cX12_tested 66 = .ok (.ifCond .eq 8, 3) := by decide +kernel
theorem dX12_tested_69 : decode cX12_tested 69 = .ok (.bipush 12, 2) := by decide +kernel
theorem dX12_tested_71 : decode cX12_tested 71 = .ok (.goto 5, 3) := by decide +kernel
theorem dX12_tested_74 : decode cX12_tested 74 = .ok (.bipush 13, 2) := by decide +kernel
theorem dX12_tested_76 : decode cX12_tested 76 = .ok (.istore_n 2, 1) := by decide +kernel
theorem dX12_tested_77 : decode cX12_tested 77 = .ok (.aload_n 0, 1) := by decide +kernel
theorem dX12_tested_78 : decode cX12_tested 78 = .ok (.invokevirtual 114, 3) := by decide +kernel
theorem dX12_tested_81 : decode cX12_tested 81 = .ok (.aload_n 0, 1) := by decide +kernel
theorem dX12_tested_82 : decode cX12_tested 82 = .ok (.iload_n 2, 1) := by decide +kernel
theorem dX12_tested_83 : decode cX12_tested 83 = .ok (.invokestatic 167, 3) := by decide +kernel
theorem dX12_tested_86 : decode cX12_tested 86 = .ok (.invokevirtual 203, 3) := by decide +kernel
theorem dX12_tested_89 : decode cX12_tested 89 = .ok (.aload_n 0, 1) := by decide +kernel
theorem dX12_tested_90 : decode cX12_tested 90 = .ok (.getfield 29, 3) := by decide +kernel
theorem dX12_tested_93 : decode cX12_tested 93 = .ok (.aload_n 0, 1) := by decide +kernel
theorem dX12_tested_94 : decode cX12_tested 94 = .ok (.getfield 164, 3) := by decide +kernel
theorem dX12_tested_97 : decode cX12_tested 97 = .ok (.iload_n 2, 1) := by decide +kernel
theorem dX12_tested_98 : decode cX12_tested 98 = .ok (.iastore, 1) := by decide +kernel
theorem dX12_tested_99 : decode cX12_tested 99 = .ok (.aload_n 0, 1) := by decide +kernel
theorem dX12_tested_100 : decode cX12_tested 100 = .ok (.dup, 1) := by decide +kernel
theorem dX12_tested_101 : decode cX12_tested 101 = .ok (.getfield 164, 3) := by decide +kernel
theorem dX12_tested_104 : decode cX12_tested 104 = .ok (.iconst 1, 1) := by decide +kernel
theorem dX12_tested_105 : decode cX12_tested 105 = .ok (.iadd, 1) := by decide +kernel
theorem dX12_tested_106 : decode cX12_tested 106 = .ok (.putfield 164, 3) := by decide +kernel
theorem dX12_tested_109 : decode cX12_tested 109 = .ok (.goto (-97), 3) := by decide +kernel
theorem dX12_tested_112 : decode cX12_tested 112 = .ok (.aload_n 0, 1) := by decide +kernel
theorem dX12_tested_113 : decode cX12_tested 113 = .ok (.invokevirtual 206, 3) := by decide +kernel
theorem dX12_tested_116 : decode cX12_tested 116 = .ok (.ifCond .eq 18, 3) := by decide +kernel
theorem dX12_tested_119 : decode cX12_tested 119 = .ok (.aload_n 0, 1) := by decide +kernel
theorem dX12_tested_120 : decode cX12_tested 120 = .ok (.invokevirtual 102, 3) := by decide +kernel
theorem dX12_tested_123 : decode cX12_tested 123 = .ok (.pop, 1) := by decide +kernel
theorem dX12_tested_124 : decode cX12_tested 124 = .ok (.aload_n 0, 1) := by decide +kernel
theorem dX12_tested_125 : decode cX12_tested 125 = .ok (.iconst 0, 1) := by decide +kernel
theorem dX12_tested_126 : decode cX12_tested 126 = .ok (.aload_n 0, 1) := by decide +kernel
theorem dX12_tested_127 : decode cX12_tested 127 = .ok (.getfield 99, 3) := by decide +kernel
theorem dX12_tested_130 : decode cX12_tested 130 = .ok (.invokevirtual 120, 3) := by decide +kernel
theorem dX12_tested_133 : decode cX12_tested 133 = .ok (.ireturn, 1) := by decide +kernel
theorem dX12_tested_134 : decode cX12_tested 134 = .ok (.aload_n 0, 1) := by decide +kernel
theorem dX12_tested_135 : decode cX12_tested 135 = .ok (.iconst 1, 1) := by decide +kernel
theorem dX12_tested_136 : decode cX12_tested 136 = .ok (.invokevirtual 203, 3) := by decide +kernel
theorem dX12_tested_139 : decode cX12_tested 139 = .ok (.iconst 1, 1) := by decide +kernel
theorem dX12_tested_140 : decode cX12_tested 140 = .ok (.ireturn, 1) := by decide +kernel
def m_tested_L12 (N : Nat)  (h12 : (Int × jMem) → Option (Int × jMem)) : Int × jMem → Option (Int × jMem)
  | (x3, M4) => (if x3 = 0 then (m_isInside N M4).bind fun r5 => (if r5 = 0 then jbv (m_layDown N 1 M4) fun M6 => some (1, M6) else jb1 (m_see N M4) fun r7 M8 => jb1 (m_fails N 0 ((M8 0 8)) M8) fun r9 M10 => jchk (r9 = 0 ∨ r9 = 1) <| some (r9, M10)) else jb1 (m_fact N M4) fun r12 M13 => (if r12 = 0 then some (0, M13) else jbv (m_closes N M13) fun M14 => jb1 (m_isWord N 6385252 M14) fun r15 M16 => jlt (fun (u17 : Int) (M18 : jMem) => (if u17 = 0 then h12 (u17, M18) else jb1 (m_isWord N 6385252 M18) fun r19 M20 => jlt (fun (u21 : Int) => jbv (m_passWord N M20) fun M22 => (m_strength N u21 M22).bind fun r23 => jbv (m_layDown N r23 M22) fun M24 => jchk (0 ≤ (M24 0 16) ∧ (M24 0 16) < 400) <| jlt (up M24 7 ((M24 0 16)) u21) fun M26 => jlt (up M26 0 16 ((w32 (((M26 0 16)) + 1)))) fun M27 => h12 (u17, M27)) fun j76 => (if r19 = 0 then j76 13 else j76 12))) fun j54 => (if r15 = 0 then jb1 (m_isWord N 28530 M16) fun r28 M29 => (if r28 = 0 then j54 0 M29 else j54 1 M29) else j54 1 M16)))
def m_tested (N : Nat) (M : jMem) : Option (Int × jMem) := jlt (up M 0 16 0) fun M1 => jlt (up M1 0 13 0) fun M2 => jfix N (m_tested_L12 N) (1, M2)
theorem c_m_tested {l : Launch} {g : jG} (N : Nat) (M : jMem)  : ∀ o, m_tested N  M = some o → jCt l g jTM yX12_tested cX12_tested 3 (some .boolean) 0 17 [(2, 0)] M o := by
  refine jMet (own := RX12) (em := id) (L := [(0, 2, 0)]) (by decide +kernel) rfl (Nat.le_of_ble_eq_true rfl) rfl (fun K hR => ?_)
  unfold m_tested
  refine z_aload_n (pc := 0) hR 0 dX12_tested_0 rfl rfl ?_
  refine z_iconst (pc := 1) hR dX12_tested_1 rfl ?_
  refine z_puti (pc := 2) hR (j := 16) jp_RX12_164 kmo_0 (by decide) rfl rfl rfl rfl dX12_tested_2 (fun M1 => ?_)
  refine z_aload_n (pc := 5) hR 0 dX12_tested_5 rfl rfl ?_
  refine z_iconst (pc := 6) hR dX12_tested_6 rfl ?_
  refine z_puti (pc := 7) hR (j := 13) jp_RX12_161 kmo_0 (by decide) rfl rfl rfl rfl dX12_tested_7 (fun M2 => ?_)
  refine z_iconst (pc := 10) hR dX12_tested_10 rfl ?_
  refine z_istore_n (pc := 11) hR (lv' := [(1, 0, 1), (0, 2, 0)]) dX12_tested_11 rfl (by decide) rfl ?_
  refine z_pick (pc := 12) (lv' := [(0, 2, 0), (1, 0, 1)]) hR [1, 0] rfl ?_
  refine z_fix (σ := Int × jMem) (lv := fun s => [(0, 2, 0), (1, 0, s.1)]) (st := fun _ => []) (M := fun s => s.2) (fun h12 hh12 => ?_) N (1, M2)
  rintro ⟨x3, M4⟩
  show jZ K id 12 [(0, 2, 0), (1, 0, x3)] [] M4 _
  unfold m_tested_L12
  refine z_iload_n (pc := 12) hR 1 dX12_tested_12 rfl rfl ?_
  refine z_ifeq (pc := 13) (tgt := 112) hR dX12_tested_13 (by decide) ?_ ?_
  · refine z_aload_n (pc := 112) hR 0 dX12_tested_112 rfl rfl ?_
    refine z_callvp (pc := 113) hR (As := []) (st := []) jm_X12_isInside jl_RX12_206 kmo_0 (by decide) rfl (by decide) (c_m_isInside N M4) rfl (by decide) (by decide) rfl (Nat.le_of_ble_eq_true rfl) dX12_tested_113 (fun r5 => ?_)
    refine z_ifeq (pc := 116) (tgt := 134) hR dX12_tested_116 (by decide) ?_ ?_
    · refine z_aload_n (pc := 134) hR 0 dX12_tested_134 rfl rfl ?_
      refine z_iconst (pc := 135) hR dX12_tested_135 rfl ?_
      refine z_callv0 (pc := 136) (rk' := 3) hR (As := [(0, 1)]) (st := []) jm_X12_layDown jl_RX12_203 kmo_0 (by decide) rfl (c_m_layDown N 1 M4) rfl (by decide) (by decide) rfl (Nat.le_of_ble_eq_true rfl) dX12_tested_136 (fun M6 => ?_)
      refine z_iconst (pc := 139) hR dX12_tested_139 rfl ?_
      exact z_zreturn (pc := 140) hR rfl rfl (Or.inr rfl) dX12_tested_140 rfl
    · refine z_aload_n (pc := 119) hR 0 dX12_tested_119 rfl rfl ?_
      refine z_callv1 (pc := 120) hR (As := []) (st := []) jm_X12_see jl_RX12_102 kmo_0 (by decide) rfl (by decide) (c_m_see N M4) rfl (by decide) (by decide) rfl (Nat.le_of_ble_eq_true rfl) dX12_tested_120 (fun r7 M8 => ?_)
      refine z_pop (pc := 123) hR dX12_tested_123 (by decide) ?_
      refine z_aload_n (pc := 124) hR 0 dX12_tested_124 rfl rfl ?_
      refine z_iconst (pc := 125) hR dX12_tested_125 rfl ?_
      refine z_aload_n (pc := 126) hR 0 dX12_tested_126 rfl rfl ?_
      refine z_geti (pc := 127) hR (j := 8) jf_RX12_99 kmo_0 (by decide) rfl rfl dX12_tested_127 ?_
      refine z_callv1 (pc := 130) hR (As := [(0, 0), (0, (M8 0 8))]) (st := []) jm_X12_fails jl_RX12_120 kmo_0 (by decide) rfl (by decide) (c_m_fails N 0 ((M8 0 8)) M8) rfl (by decide) (by decide) rfl (Nat.le_of_ble_eq_true rfl) dX12_tested_130 (fun r9 M10 => ?_)
      refine z_chk (fun hc11 => ?_)
      exact z_zreturn (pc := 133) hR rfl rfl hc11 dX12_tested_133 rfl
  · refine z_aload_n (pc := 16) hR 0 dX12_tested_16 rfl rfl ?_
    refine z_callv1 (pc := 17) hR (As := []) (st := []) jm_X12_fact jl_RX12_209 kmo_0 (by decide) rfl (by decide) (c_m_fact N M4) rfl (by decide) (by decide) rfl (Nat.le_of_ble_eq_true rfl) dX12_tested_17 (fun r12 M13 => ?_)
    refine z_ifne (pc := 20) (tgt := 25) hR dX12_tested_20 (by decide) ?_ ?_
    · refine z_aload_n (pc := 25) hR 0 dX12_tested_25 rfl rfl ?_
      refine z_callv0 (pc := 26) (rk' := 3) hR (As := []) (st := []) jm_X12_closes jl_RX12_212 kmo_0 (by decide) rfl (c_m_closes N M13) rfl (by decide) (by decide) rfl (Nat.le_of_ble_eq_true rfl) dX12_tested_26 (fun M14 => ?_)
      refine z_aload_n (pc := 29) hR 0 dX12_tested_29 rfl rfl ?_
      refine z_ldc2 (pc := 30) hR (n := 6385252) jc_RX12_215 (by decide) rfl dX12_tested_30 ?_
      refine z_callv1 (pc := 33) hR (As := [(1, 6385252)]) (st := []) jm_X12_isWord jl_RX12_110 kmo_0 (by decide) rfl (by decide) (c_m_isWord N 6385252 M14) rfl (by decide) (by decide) rfl (Nat.le_of_ble_eq_true rfl) dX12_tested_33 (fun r15 M16 => ?_)
      refine z_join (P := fun j => ∀ (u17 : Int) (M18 : jMem), jZ K id 54 [(0, 2, 0)] [(0, u17)] M18 (j u17 M18)) (fun u17 M18 => ?_) (fun j54 hj54 => ?_)
      · refine z_istore_n (pc := 54) hR (lv' := [(1, 0, u17), (0, 2, 0)]) dX12_tested_54 rfl (by decide) rfl ?_
        refine z_iload_n (pc := 55) hR 0 dX12_tested_55 rfl rfl ?_
        refine z_ifeq (pc := 56) (tgt := 12) hR dX12_tested_56 (by decide) ?_ ?_
        · refine z_pick (pc := 12) (lv' := [(0, 2, 0), (1, 0, u17)]) hR [1, 0] rfl ?_
          exact hh12 (u17, M18)
        · refine z_aload_n (pc := 59) hR 1 dX12_tested_59 rfl rfl ?_
          refine z_ldc2 (pc := 60) hR (n := 6385252) jc_RX12_215 (by decide) rfl dX12_tested_60 ?_
          refine z_callv1 (pc := 63) hR (As := [(1, 6385252)]) (st := []) jm_X12_isWord jl_RX12_110 kmo_0 (by decide) rfl (by decide) (c_m_isWord N 6385252 M18) rfl (by decide) (by decide) rfl (Nat.le_of_ble_eq_true rfl) dX12_tested_63 (fun r19 M20 => ?_)
          refine z_join (P := fun j => ∀ (u21 : Int), jZ K id 76 [(0, 2, 0), (1, 0, u17)] [(0, u21)] M20 (j u21)) (fun u21 => ?_) (fun j76 hj76 => ?_)
          · refine z_istore_n (pc := 76) hR (lv' := [(2, 0, u21), (0, 2, 0), (1, 0, u17)]) dX12_tested_76 rfl (by decide) rfl ?_
            refine z_aload_n (pc := 77) hR 1 dX12_tested_77 rfl rfl ?_
            refine z_callv0 (pc := 78) (rk' := 3) hR (As := []) (st := []) jm_X12_passWord jl_RX12_114 kmo_0 (by decide) rfl (c_m_passWord N M20) rfl (by decide) (by decide) rfl (Nat.le_of_ble_eq_true rfl) dX12_tested_78 (fun M22 => ?_)
            refine z_aload_n (pc := 81) hR 1 dX12_tested_81 rfl rfl ?_
            refine z_iload_n (pc := 82) hR 0 dX12_tested_82 rfl rfl ?_
            refine z_callsp (pc := 83) hR (As := [(0, u21)]) (st := [(2, 0)]) jm_X12_strength jl_RX12_167 (by decide) (c_m_strength N u21 M22) rfl (by decide) (by decide) rfl (Nat.le_of_ble_eq_true rfl) dX12_tested_83 (fun r23 => ?_)
            refine z_callv0 (pc := 86) (rk' := 3) hR (As := [(0, r23)]) (st := []) jm_X12_layDown jl_RX12_203 kmo_0 (by decide) rfl (c_m_layDown N r23 M22) rfl (by decide) (by decide) rfl (Nat.le_of_ble_eq_true rfl) dX12_tested_86 (fun M24 => ?_)
            refine z_aload_n (pc := 89) hR 1 dX12_tested_89 rfl rfl ?_
            refine z_getr (pc := 90) hR (c0 := 7) (r := 7) jf_RX12_29 kmo_0 (by decide) rfl rfl dX12_tested_90 ?_
            refine z_aload_n (pc := 93) hR 1 dX12_tested_93 rfl rfl ?_
            refine z_geti (pc := 94) hR (j := 16) jf_RX12_164 kmo_0 (by decide) rfl rfl dX12_tested_94 ?_
            refine z_iload_n (pc := 97) hR 0 dX12_tested_97 rfl rfl ?_
            refine z_chk (fun hc25 => ?_)
            refine z_iast (pc := 98) hR (n := 400) kma_7 hc25.1 hc25.2 dX12_tested_98 (fun M26 => ?_)
            refine z_aload_n (pc := 99) hR 1 dX12_tested_99 rfl rfl ?_
            refine z_dup (pc := 100) hR dX12_tested_100 (by decide) ?_
            refine z_geti (pc := 101) hR (j := 16) jf_RX12_164 kmo_0 (by decide) rfl rfl dX12_tested_101 ?_
            refine z_iconst (pc := 104) hR dX12_tested_104 rfl ?_
            refine z_iadd (pc := 105) hR dX12_tested_105 ?_
            refine z_puti (pc := 106) hR (j := 16) jp_RX12_164 kmo_0 (by decide) rfl rfl rfl rfl dX12_tested_106 (fun M27 => ?_)
            refine z_goto (pc := 109) (tgt := 12) hR dX12_tested_109 (by decide) ?_
            refine z_pick (pc := 12) (lv' := [(0, 2, 0), (1, 0, u17)]) hR [1, 2] rfl ?_
            exact hh12 (u17, M27)
          refine z_ifeq (pc := 66) (tgt := 74) hR dX12_tested_66 (by decide) ?_ ?_
          · refine z_bipush (pc := 74) hR dX12_tested_74 rfl ?_
            refine z_pick (pc := 76) (lv' := [(0, 2, 0), (1, 0, u17)]) hR [1, 0] rfl ?_
            exact hj76 13
          · refine z_bipush (pc := 69) hR dX12_tested_69 rfl ?_
            refine z_goto (pc := 71) (tgt := 76) hR dX12_tested_71 (by decide) ?_
            refine z_pick (pc := 76) (lv' := [(0, 2, 0), (1, 0, u17)]) hR [1, 0] rfl ?_
            exact hj76 12
      refine z_ifne (pc := 36) (tgt := 49) hR dX12_tested_36 (by decide) ?_ ?_
      · refine z_iconst (pc := 49) hR dX12_tested_49 rfl ?_
        refine z_goto (pc := 50) (tgt := 54) hR dX12_tested_50 (by decide) ?_
        refine z_pick (pc := 54) (lv' := [(0, 2, 0)]) hR [0] rfl ?_
        exact hj54 1 M16
      · refine z_aload_n (pc := 39) hR 0 dX12_tested_39 rfl rfl ?_
        refine z_ldc2 (pc := 40) hR (n := 28530) jc_RX12_217 (by decide) rfl dX12_tested_40 ?_
        refine z_callv1 (pc := 43) hR (As := [(1, 28530)]) (st := []) jm_X12_isWord jl_RX12_110 kmo_0 (by decide) rfl (by decide) (c_m_isWord N 28530 M16) rfl (by decide) (by decide) rfl (Nat.le_of_ble_eq_true rfl) dX12_tested_43 (fun r28 M29 => ?_)
        refine z_ifeq (pc := 46) (tgt := 53) hR dX12_tested_46 (by decide) ?_ ?_
        · refine z_iconst (pc := 53) hR dX12_tested_53 rfl ?_
          refine z_pick (pc := 54) (lv' := [(0, 2, 0)]) hR [0] rfl ?_
          exact hj54 0 M29
        · refine z_iconst (pc := 49) hR dX12_tested_49 rfl ?_
          refine z_goto (pc := 50) (tgt := 54) hR dX12_tested_50 (by decide) ?_
          refine z_pick (pc := 54) (lv' := [(0, 2, 0)]) hR [0] rfl ?_
          exact hj54 1 M29
    · refine z_iconst (pc := 23) hR dX12_tested_23 rfl ?_
      exact z_zreturn (pc := 24) hR rfl rfl (Or.inl rfl) dX12_tested_24 rfl
theorem dX12_isWedHere_0 : decode cX12_isWedHere 0 = .ok (.aload_n 0, 1) := by decide +kernel
theorem dX12_isWedHere_1 : decode cX12_isWedHere 1 = .ok (.invokevirtual 114, 3) := by decide +kernel
theorem dX12_isWedHere_4 : decode cX12_isWedHere 4 = .ok (.bipush 48, 2) := by decide +kernel
theorem dX12_isWedHere_6 : decode cX12_isWedHere 6 = .ok (.aload_n 0, 1) := by decide +kernel
theorem dX12_isWedHere_7 : decode cX12_isWedHere 7 = .ok (.getfield 155, 3) := by decide +kernel
theorem dX12_isWedHere_10 : decode cX12_isWedHere 10 = .ok (.imul, 1) := by decide +kernel
theorem dX12_isWedHere_11 : decode cX12_isWedHere 11 = .ok (.iconst 4, 1) := by decide +kernel
theorem dX12_isWedHere_12 : decode cX12_isWedHere 12 = .ok (.aload_n 0, 1) := by decide +kernel
theorem dX12_isWedHere_13 : decode cX12_isWedHere 13 = .ok (.getfield 23, 3) := by decide +kernel
theorem dX12_isWedHere_16 : decode cX12_isWedHere 16 = .ok (.aload_n 0, 1) := by decide +kernel
theorem dX12_isWedHere_17 : decode cX12_isWedHere 17 = .ok (.getfield 155, 3) := by decide +kernel
theorem dX12_isWedHere_20 : decode cX12_isWedHere 20 = .ok (.iaload, 1) := by decide +kernel
theorem dX12_isWedHere_21 : decode cX12_isWedHere 21 = .ok (.imul, 1) := by decide +kernel
theorem dX12_isWedHere_22 : decode cX12_isWedHere 22 = .ok (.iadd, 1) := by decide +kernel
theorem dX12_isWedHere_23 : decode cX12_isWedHere 23 = .ok (.istore_n 1, 1) := by decide +kernel
theorem dX12_isWedHere_24 : decode cX12_isWedHere 24 = .ok (.aload_n 0, 1) := by decide +kernel
theorem dX12_isWedHere_25 : decode cX12_isWedHere 25 = .ok (.getfield 20, 3) := by decide +kernel
theorem dX12_isWedHere_28 : decode cX12_isWedHere 28 = .ok (.iload_n 1, 1) := by decide +kernel
theorem dX12_isWedHere_29 : decode cX12_isWedHere 29 = .ok (.aload_n 0, 1) := by decide +kernel
theorem dX12_isWedHere_30 : decode cX12_isWedHere 30 = .ok (.getfield 17, 3) := by decide +kernel
theorem dX12_isWedHere_33 : decode cX12_isWedHere 33 = .ok (.aload_n 0, 1) := by decide +kernel
theorem dX12_isWedHere_34 : decode cX12_isWedHere 34 = .ok (.getfield 155, 3) := by decide +kernel
theorem dX12_isWedHere_37 : decode cX12_isWedHere 37 = .ok (.iaload, 1) := by decide +kernel
theorem dX12_isWedHere_38 : decode cX12_isWedHere 38 = .ok (.iastore, 1) := by decide +kernel
theorem dX12_isWedHere_39 : decode cX12_isWedHere 39 = .ok (.aload_n 0, 1) := by decide +kernel
theorem dX12_isWedHere_40 : decode cX12_isWedHere 40 = .ok (.invokevirtual 192, 3) := by decide +kernel
theorem dX12_isWedHere_43 : decode cX12_isWedHere 43 = .ok (.ifCond .ne 5, 3) := by decide +kernel
theorem dX12_isWedHere_46 : decode cX12_isWedHere 46 = .ok (.iconst 0, 1) := by decide +kernel
theorem dX12_isWedHere_47 : decode cX12_isWedHere 47 = .ok (.ireturn, 1) := by decide +kernel
theorem dX12_isWedHere_48 : decode cX12_isWedHere 48 = .ok (.aload_n 0, 1) := by decide +kernel
theorem dX12_isWedHere_49 : decode cX12_isWedHere 49 = .ok (.getfield 20, 3) := by decide +kernel
theorem dX12_isWedHere_52 : decode cX12_isWedHere 52 = .ok (.iload_n 1, 1) := by decide +kernel
theorem dX12_isWedHere_53 : decode cX12_isWedHere 53 = .ok (.iconst 1, 1) := by decide +kernel
theorem dX12_isWedHere_54 : decode cX12_isWedHere 54 = .ok (.iadd, 1) := by decide +kernel
theorem dX12_isWedHere_55 : decode cX12_isWedHere 55 = .ok (.aload_n 0, 1) := by decide +kernel
theorem dX12_isWedHere_56 : decode cX12_isWedHere 56 = .ok (.getfield 17, 3) := by decide +kernel
theorem dX12_isWedHere_59 : decode cX12_isWedHere 59 = .ok (.aload_n 0, 1) := by decide +kernel
theorem dX12_isWedHere_60 : decode cX12_isWedHere 60 = .ok (.getfield 155, 3) := by decide +kernel
theorem dX12_isWedHere_63 : decode cX12_isWedHere 63 = .ok (.iaload, 1) := by decide +kernel
theorem dX12_isWedHere_64 : decode cX12_isWedHere 64 = .ok (.iastore, 1) := by decide +kernel
theorem dX12_isWedHere_65 : decode cX12_isWedHere 65 = .ok (.aload_n 0, 1) := by decide +kernel
theorem dX12_isWedHere_66 : decode cX12_isWedHere 66 = .ok (.getfield 20, 3) := by decide +kernel
theorem dX12_isWedHere_69 : decode cX12_isWedHere 69 = .ok (.iload_n 1, 1) := by decide +kernel
theorem dX12_isWedHere_70 : decode cX12_isWedHere 70 = .ok (.iconst 2, 1) := by decide +kernel
theorem dX12_isWedHere_71 : decode cX12_isWedHere 71 = .ok (.iadd, 1) := by decide +kernel
theorem dX12_isWedHere_72 : decode cX12_isWedHere 72 = .ok (.iconst (-1), 1) := by decide +kernel
theorem dX12_isWedHere_73 : decode cX12_isWedHere 73 = .ok (.iastore, 1) := by decide +kernel
theorem dX12_isWedHere_74 : decode cX12_isWedHere 74 = .ok (.aload_n 0, 1) := by decide +kernel
theorem dX12_isWedHere_75 : decode cX12_isWedHere 75 = .ok (.ldc2_w 219, 3) := by decide +kernel
theorem dX12_isWedHere_78 : decode cX12_isWedHere 78 = .ok (.invokevirtual 221, 3) := by decide +kernel
theorem dX12_isWedHere_81 : decode cX12_isWedHere 81 = .ok (.ifCond .eq 29, 3) := by decide +kernel
theorem dX12_isWedHere_84 : decode cX12_isWedHere 84 = .ok (.aload_n 0, 1) := by decide +kernel
theorem dX12_isWedHere_85 : decode cX12_isWedHere 85 = .ok (.getfield 20, 3) := by decide +kernel
theorem dX12_isWedHere_88 : decode cX12_isWedHere 88 = .ok (.iload_n 1, 1) := by decide +kernel
theorem dX12_isWedHere_89 : decode cX12_isWedHere 89 = .ok (.iconst 2, 1) := by decide +kernel
theorem dX12_isWedHere_90 : decode cX12_isWedHere 90 = .ok (.iadd, 1) := by decide +kernel
theorem dX12_isWedHere_91 : decode cX12_isWedHere 91 = .ok (.aload_n 0, 1) := by decide +kernel
theorem dX12_isWedHere_92 : decode cX12_isWedHere 92 = .ok (.getfield 17, 3) := by decide +kernel
theorem dX12_isWedHere_95 : decode cX12_isWedHere 95 = .ok (.aload_n 0, 1) := by decide +kernel
theorem dX12_isWedHere_96 : decode cX12_isWedHere 96 = .ok (.getfield 155, 3) := by decide +kernel
theorem dX12_isWedHere_99 : decode cX12_isWedHere 99 = .ok (.iaload, 1) := by decide +kernel
theorem dX12_isWedHere_100 : decode cX12_isWedHere 100 = .ok (.iastore, 1) := by decide +kernel
theorem dX12_isWedHere_101 : decode cX12_isWedHere 101 = .ok (.aload_n 0, 1) := by decide +kernel
theorem dX12_isWedHere_102 : decode cX12_isWedHere 102 = .ok (.invokevirtual 224, 3) := by decide +kernel
theorem dX12_isWedHere_105 : decode cX12_isWedHere 105 = .ok (.ifCond .ne 5, 3) := by decide +kernel
theorem dX12_isWedHere_108 : decode cX12_isWedHere 108 = .ok (.iconst 0, 1) := by decide +kernel
theorem dX12_isWedHere_109 : decode cX12_isWedHere 109 = .ok (.ireturn, 1) := by decide +kernel
theorem dX12_isWedHere_110 : decode cX12_isWedHere 110 = .ok (.aload_n 0, 1) := by decide +kernel
theorem dX12_isWedHere_111 : decode cX12_isWedHere 111 = .ok (.getfield 20, 3) := by decide +kernel
theorem dX12_isWedHere_114 : decode cX12_isWedHere 114 = .ok (.iload_n 1, 1) := by decide +kernel
theorem dX12_isWedHere_115 : decode cX12_isWedHere 115 = .ok (.iconst 3, 1) := by decide +kernel
theorem dX12_isWedHere_116 : decode cX12_isWedHere 116 = .ok (.iadd, 1) := by decide +kernel
theorem dX12_isWedHere_117 : decode cX12_isWedHere 117 = .ok (.aload_n 0, 1) := by decide +kernel
theorem dX12_isWedHere_118 : decode cX12_isWedHere 118 = .ok (.getfield 17, 3) := by decide +kernel
theorem dX12_isWedHere_121 : decode cX12_isWedHere 121 = .ok (.aload_n 0, 1) := by decide +kernel
theorem dX12_isWedHere_122 : decode cX12_isWedHere 122 = .ok (.getfield 155, 3) := by decide +kernel
theorem dX12_isWedHere_125 : decode cX12_isWedHere 125 = .ok (.iaload, 1) := by decide +kernel
theorem dX12_isWedHere_126 : decode cX12_isWedHere 126 = .ok (.iastore, 1) := by decide +kernel
theorem dX12_isWedHere_127 : decode cX12_isWedHere 127 = .ok (.aload_n 0, 1) := by decide +kernel
theorem dX12_isWedHere_128 : decode cX12_isWedHere 128 = .ok (.getfield 23, 3) := by decide +kernel
theorem dX12_isWedHere_131 : decode cX12_isWedHere 131 = .ok (.aload_n 0, 1) := by decide +kernel
theorem dX12_isWedHere_132 : decode cX12_isWedHere 132 = .ok (.getfield 155, 3) := by decide +kernel
theorem dX12_isWedHere_135 : decode cX12_isWedHere 135 = .ok (.dup2, 1) := by decide +kernel
theorem dX12_isWedHere_136 : decode cX12_isWedHere 136 = .ok (.iaload, 1) := by decide +kernel
theorem dX12_isWedHere_137 : decode cX12_isWedHere 137 = .ok (.iconst 1, 1) := by decide +kernel
theorem dX12_isWedHere_138 : decode cX12_isWedHere 138 = .ok (.iadd, 1) := by decide +kernel
theorem dX12_isWedHere_139 : decode cX12_isWedHere 139 = .ok (.iastore, 1) := by decide +kernel
theorem dX12_isWedHere_140 : decode cX12_isWedHere 140 = .ok (.iconst 1, 1) := by decide +kernel
theorem dX12_isWedHere_141 : decode cX12_isWedHere 141 = .ok (.ireturn, 1) := by decide +kernel
def m_isWedHere (N : Nat) (M : jMem) : Option (Int × jMem) := jbv (m_passWord N M) fun M1 => jchk (0 ≤ (M1 0 11) ∧ (M1 0 11) < 6) <| jlt ((w32 (((w32 (48 * ((M1 0 11))))) + ((w32 (4 * ((M1 5 ((M1 0 11)))))))))) fun v3 => jchk (0 ≤ (M1 0 11) ∧ (M1 0 11) < 7) <| jchk (0 ≤ v3 ∧ v3 < 288) <| jlt (up M1 4 v3 ((M1 3 ((M1 0 11))))) fun M6 => jb1 (m_sum N M6) fun r7 M8 => (if r7 = 0 then some (0, M8) else jchk (0 ≤ (M8 0 11) ∧ (M8 0 11) < 7) <| jchk (0 ≤ (w32 (v3 + 1)) ∧ (w32 (v3 + 1)) < 288) <| jlt (up M8 4 ((w32 (v3 + 1))) ((M8 3 ((M8 0 11))))) fun M11 => jchk (0 ≤ (w32 (v3 + 2)) ∧ (w32 (v3 + 2)) < 288) <| jlt (up M11 4 ((w32 (v3 + 2))) ((-1))) fun M13 => jb1 (m_takesWord N 26982 M13) fun r14 M15 => jlt (fun (M16 : jMem) => jchk (0 ≤ (M16 0 11) ∧ (M16 0 11) < 7) <| jchk (0 ≤ (w32 (v3 + 3)) ∧ (w32 (v3 + 3)) < 288) <| jlt (up M16 4 ((w32 (v3 + 3))) ((M16 3 ((M16 0 11))))) fun M19 => jchk (0 ≤ (M19 0 11) ∧ (M19 0 11) < 6) <| jchk (0 ≤ (M19 0 11) ∧ (M19 0 11) < 6) <| jlt (up M19 5 ((M19 0 11)) ((w32 (((M19 5 ((M19 0 11)))) + 1)))) fun M22 => some (1, M22)) fun j110 => (if r14 = 0 then j110 M15 else jchk (0 ≤ (M15 0 11) ∧ (M15 0 11) < 7) <| jchk (0 ≤ (w32 (v3 + 2)) ∧ (w32 (v3 + 2)) < 288) <| jlt (up M15 4 ((w32 (v3 + 2))) ((M15 3 ((M15 0 11))))) fun M25 => jb1 (m_tested N M25) fun r26 M27 => (if r26 = 0 then some (0, M27) else j110 M27)))
theorem c_m_isWedHere {l : Launch} {g : jG} (N : Nat) (M : jMem)  : ∀ o, m_isWedHere N  M = some o → jCt l g jTM yX12_isWedHere cX12_isWedHere 2 (some .boolean) 0 19 [(2, 0)] M o := by
  refine jMet (own := RX12) (em := id) (L := [(0, 2, 0)]) (by decide +kernel) rfl (Nat.le_of_ble_eq_true rfl) rfl (fun K hR => ?_)
  unfold m_isWedHere
  refine z_aload_n (pc := 0) hR 0 dX12_isWedHere_0 rfl rfl ?_
  refine z_callv0 (pc := 1) (rk' := 3) hR (As := []) (st := []) jm_X12_passWord jl_RX12_114 kmo_0 (by decide) rfl (c_m_passWord N M) rfl (by decide) (by decide) rfl (Nat.le_of_ble_eq_true rfl) dX12_isWedHere_1 (fun M1 => ?_)
  refine z_bipush (pc := 4) hR dX12_isWedHere_4 rfl ?_
  refine z_aload_n (pc := 6) hR 0 dX12_isWedHere_6 rfl rfl ?_
  refine z_geti (pc := 7) hR (j := 11) jf_RX12_155 kmo_0 (by decide) rfl rfl dX12_isWedHere_7 ?_
  refine z_imul (pc := 10) hR dX12_isWedHere_10 ?_
  refine z_iconst (pc := 11) hR dX12_isWedHere_11 rfl ?_
  refine z_aload_n (pc := 12) hR 0 dX12_isWedHere_12 rfl rfl ?_
  refine z_getr (pc := 13) hR (c0 := 5) (r := 5) jf_RX12_23 kmo_0 (by decide) rfl rfl dX12_isWedHere_13 ?_
  refine z_aload_n (pc := 16) hR 0 dX12_isWedHere_16 rfl rfl ?_
  refine z_geti (pc := 17) hR (j := 11) jf_RX12_155 kmo_0 (by decide) rfl rfl dX12_isWedHere_17 ?_
  refine z_chk (fun hc2 => ?_)
  refine z_iald (pc := 20) hR (n := 6) kma_5 hc2.1 hc2.2 dX12_isWedHere_20 ?_
  refine z_imul (pc := 21) hR dX12_isWedHere_21 ?_
  refine z_iadd (pc := 22) hR dX12_isWedHere_22 ?_
  refine z_let1 (fun v3 => ?_)
  refine z_istore_n (pc := 23) hR (lv' := [(1, 0, v3), (0, 2, 0)]) dX12_isWedHere_23 rfl (by decide) rfl ?_
  refine z_aload_n (pc := 24) hR 1 dX12_isWedHere_24 rfl rfl ?_
  refine z_getr (pc := 25) hR (c0 := 4) (r := 4) jf_RX12_20 kmo_0 (by decide) rfl rfl dX12_isWedHere_25 ?_
  refine z_iload_n (pc := 28) hR 0 dX12_isWedHere_28 rfl rfl ?_
  refine z_aload_n (pc := 29) hR 1 dX12_isWedHere_29 rfl rfl ?_
  refine z_getr (pc := 30) hR (c0 := 3) (r := 3) jf_RX12_17 kmo_0 (by decide) rfl rfl dX12_isWedHere_30 ?_
  refine z_aload_n (pc := 33) hR 1 dX12_isWedHere_33 rfl rfl ?_
  refine z_geti (pc := 34) hR (j := 11) jf_RX12_155 kmo_0 (by decide) rfl rfl dX12_isWedHere_34 ?_
  refine z_chk (fun hc4 => ?_)
  refine z_iald (pc := 37) hR (n := 7) kma_3 hc4.1 hc4.2 dX12_isWedHere_37 ?_
  refine z_chk (fun hc5 => ?_)
  refine z_iast (pc := 38) hR (n := 288) kma_4 hc5.1 hc5.2 dX12_isWedHere_38 (fun M6 => ?_)
  refine z_aload_n (pc := 39) hR 1 dX12_isWedHere_39 rfl rfl ?_
  refine z_callv1 (pc := 40) hR (As := []) (st := []) jm_X12_sum jl_RX12_192 kmo_0 (by decide) rfl (by decide) (c_m_sum N M6) rfl (by decide) (by decide) rfl (Nat.le_of_ble_eq_true rfl) dX12_isWedHere_40 (fun r7 M8 => ?_)
  refine z_ifne (pc := 43) (tgt := 48) hR dX12_isWedHere_43 (by decide) ?_ ?_
  · refine z_aload_n (pc := 48) hR 1 dX12_isWedHere_48 rfl rfl ?_
    refine z_getr (pc := 49) hR (c0 := 4) (r := 4) jf_RX12_20 kmo_0 (by decide) rfl rfl dX12_isWedHere_49 ?_
    refine z_iload_n (pc := 52) hR 0 dX12_isWedHere_52 rfl rfl ?_
    refine z_iconst (pc := 53) hR dX12_isWedHere_53 rfl ?_
    refine z_iadd (pc := 54) hR dX12_isWedHere_54 ?_
    refine z_aload_n (pc := 55) hR 1 dX12_isWedHere_55 rfl rfl ?_
    refine z_getr (pc := 56) hR (c0 := 3) (r := 3) jf_RX12_17 kmo_0 (by decide) rfl rfl dX12_isWedHere_56 ?_
    refine z_aload_n (pc := 59) hR 1 dX12_isWedHere_59 rfl rfl ?_
    refine z_geti (pc := 60) hR (j := 11) jf_RX12_155 kmo_0 (by decide) rfl rfl dX12_isWedHere_60 ?_
    refine z_chk (fun hc9 => ?_)
    refine z_iald (pc := 63) hR (n := 7) kma_3 hc9.1 hc9.2 dX12_isWedHere_63 ?_
    refine z_chk (fun hc10 => ?_)
    refine z_iast (pc := 64) hR (n := 288) kma_4 hc10.1 hc10.2 dX12_isWedHere_64 (fun M11 => ?_)
    refine z_aload_n (pc := 65) hR 1 dX12_isWedHere_65 rfl rfl ?_
    refine z_getr (pc := 66) hR (c0 := 4) (r := 4) jf_RX12_20 kmo_0 (by decide) rfl rfl dX12_isWedHere_66 ?_
    refine z_iload_n (pc := 69) hR 0 dX12_isWedHere_69 rfl rfl ?_
    refine z_iconst (pc := 70) hR dX12_isWedHere_70 rfl ?_
    refine z_iadd (pc := 71) hR dX12_isWedHere_71 ?_
    refine z_iconst (pc := 72) hR dX12_isWedHere_72 rfl ?_
    refine z_chk (fun hc12 => ?_)
    refine z_iast (pc := 73) hR (n := 288) kma_4 hc12.1 hc12.2 dX12_isWedHere_73 (fun M13 => ?_)
    refine z_aload_n (pc := 74) hR 1 dX12_isWedHere_74 rfl rfl ?_
    refine z_ldc2 (pc := 75) hR (n := 26982) jc_RX12_219 (by decide) rfl dX12_isWedHere_75 ?_
    refine z_callv1 (pc := 78) hR (As := [(1, 26982)]) (st := []) jm_X12_takesWord jl_RX12_221 kmo_0 (by decide) rfl (by decide) (c_m_takesWord N 26982 M13) rfl (by decide) (by decide) rfl (Nat.le_of_ble_eq_true rfl) dX12_isWedHere_78 (fun r14 M15 => ?_)
    refine z_join (P := fun j => ∀ (M16 : jMem), jZ K id 110 [(0, 2, 0), (1, 0, v3)] [] M16 (j M16)) (fun M16 => ?_) (fun j110 hj110 => ?_)
    · refine z_aload_n (pc := 110) hR 0 dX12_isWedHere_110 rfl rfl ?_
      refine z_getr (pc := 111) hR (c0 := 4) (r := 4) jf_RX12_20 kmo_0 (by decide) rfl rfl dX12_isWedHere_111 ?_
      refine z_iload_n (pc := 114) hR 1 dX12_isWedHere_114 rfl rfl ?_
      refine z_iconst (pc := 115) hR dX12_isWedHere_115 rfl ?_
      refine z_iadd (pc := 116) hR dX12_isWedHere_116 ?_
      refine z_aload_n (pc := 117) hR 0 dX12_isWedHere_117 rfl rfl ?_
      refine z_getr (pc := 118) hR (c0 := 3) (r := 3) jf_RX12_17 kmo_0 (by decide) rfl rfl dX12_isWedHere_118 ?_
      refine z_aload_n (pc := 121) hR 0 dX12_isWedHere_121 rfl rfl ?_
      refine z_geti (pc := 122) hR (j := 11) jf_RX12_155 kmo_0 (by decide) rfl rfl dX12_isWedHere_122 ?_
      refine z_chk (fun hc17 => ?_)
      refine z_iald (pc := 125) hR (n := 7) kma_3 hc17.1 hc17.2 dX12_isWedHere_125 ?_
      refine z_chk (fun hc18 => ?_)
      refine z_iast (pc := 126) hR (n := 288) kma_4 hc18.1 hc18.2 dX12_isWedHere_126 (fun M19 => ?_)
      refine z_aload_n (pc := 127) hR 0 dX12_isWedHere_127 rfl rfl ?_
      refine z_getr (pc := 128) hR (c0 := 5) (r := 5) jf_RX12_23 kmo_0 (by decide) rfl rfl dX12_isWedHere_128 ?_
      refine z_aload_n (pc := 131) hR 0 dX12_isWedHere_131 rfl rfl ?_
      refine z_geti (pc := 132) hR (j := 11) jf_RX12_155 kmo_0 (by decide) rfl rfl dX12_isWedHere_132 ?_
      refine z_dup2 (pc := 135) hR dX12_isWedHere_135 (by decide) (by decide) ?_
      refine z_chk (fun hc20 => ?_)
      refine z_iald (pc := 136) hR (n := 6) kma_5 hc20.1 hc20.2 dX12_isWedHere_136 ?_
      refine z_iconst (pc := 137) hR dX12_isWedHere_137 rfl ?_
      refine z_iadd (pc := 138) hR dX12_isWedHere_138 ?_
      refine z_chk (fun hc21 => ?_)
      refine z_iast (pc := 139) hR (n := 6) kma_5 hc21.1 hc21.2 dX12_isWedHere_139 (fun M22 => ?_)
      refine z_iconst (pc := 140) hR dX12_isWedHere_140 rfl ?_
      exact z_zreturn (pc := 141) hR rfl rfl (Or.inr rfl) dX12_isWedHere_141 rfl
    refine z_ifeq (pc := 81) (tgt := 110) hR dX12_isWedHere_81 (by decide) ?_ ?_
    · refine z_pick (pc := 110) (lv' := [(0, 2, 0), (1, 0, v3)]) hR [1, 0] rfl ?_
      exact hj110 M15
    · refine z_aload_n (pc := 84) hR 1 dX12_isWedHere_84 rfl rfl ?_
      refine z_getr (pc := 85) hR (c0 := 4) (r := 4) jf_RX12_20 kmo_0 (by decide) rfl rfl dX12_isWedHere_85 ?_
      refine z_iload_n (pc := 88) hR 0 dX12_isWedHere_88 rfl rfl ?_
      refine z_iconst (pc := 89) hR dX12_isWedHere_89 rfl ?_
      refine z_iadd (pc := 90) hR dX12_isWedHere_90 ?_
      refine z_aload_n (pc := 91) hR 1 dX12_isWedHere_91 rfl rfl ?_
      refine z_getr (pc := 92) hR (c0 := 3) (r := 3) jf_RX12_17 kmo_0 (by decide) rfl rfl dX12_isWedHere_92 ?_
      refine z_aload_n (pc := 95) hR 1 dX12_isWedHere_95 rfl rfl ?_
      refine z_geti (pc := 96) hR (j := 11) jf_RX12_155 kmo_0 (by decide) rfl rfl dX12_isWedHere_96 ?_
      refine z_chk (fun hc23 => ?_)
      refine z_iald (pc := 99) hR (n := 7) kma_3 hc23.1 hc23.2 dX12_isWedHere_99 ?_
      refine z_chk (fun hc24 => ?_)
      refine z_iast (pc := 100) hR (n := 288) kma_4 hc24.1 hc24.2 dX12_isWedHere_100 (fun M25 => ?_)
      refine z_aload_n (pc := 101) hR 1 dX12_isWedHere_101 rfl rfl ?_
      refine z_callv1 (pc := 102) hR (As := []) (st := []) jm_X12_tested jl_RX12_224 kmo_0 (by decide) rfl (by decide) (c_m_tested N M25) rfl (by decide) (by decide) rfl (Nat.le_of_ble_eq_true rfl) dX12_isWedHere_102 (fun r26 M27 => ?_)
      refine z_ifne (pc := 105) (tgt := 110) hR dX12_isWedHere_105 (by decide) ?_ ?_
      · refine z_pick (pc := 110) (lv' := [(0, 2, 0), (1, 0, v3)]) hR [1, 0] rfl ?_
        exact hj110 M27
      · refine z_iconst (pc := 108) hR dX12_isWedHere_108 rfl ?_
        exact z_zreturn (pc := 109) hR rfl rfl (Or.inl rfl) dX12_isWedHere_109 rfl
  · refine z_iconst (pc := 46) hR dX12_isWedHere_46 rfl ?_
    exact z_zreturn (pc := 47) hR rfl rfl (Or.inl rfl) dX12_isWedHere_47 rfl
theorem dX12_cellHere_0 : decode cX12_cellHere 0 = .ok (.aload_n 0, 1) := by decide +kernel
theorem dX12_cellHere_1 : decode cX12_cellHere 1 = .ok (.iload_n 2, 1) := by decide +kernel
theorem dX12_cellHere_2 : decode cX12_cellHere 2 = .ok (.iload_n 3, 1) := by decide +kernel
theorem dX12_cellHere_3 : decode cX12_cellHere 3 = .ok (.invokevirtual 176, 3) := by decide +kernel
theorem dX12_cellHere_6 : decode cX12_cellHere 6 = .ok (.ifCond .ne 5, 3) := by decide +kernel
theorem dX12_cellHere_9 : decode cX12_cellHere 9 = .ok (.iconst 0, 1) := by decide +kernel
theorem dX12_cellHere_10 : decode cX12_cellHere 10 = .ok (.ireturn, 1) := by decide +kernel
theorem dX12_cellHere_11 : decode cX12_cellHere 11 = .ok (.aload_n 0, 1) := by decide +kernel
theorem dX12_cellHere_12 : decode cX12_cellHere 12 = .ok (.getfield 26, 3) := by decide +kernel
theorem dX12_cellHere_15 : decode cX12_cellHere 15 = .ok (.iload_n 1, 1) := by decide +kernel
theorem dX12_cellHere_16 : decode cX12_cellHere 16 = .ok (.aload_n 0, 1) := by decide +kernel
theorem dX12_cellHere_17 : decode cX12_cellHere 17 = .ok (.getfield 124, 3) := by decide +kernel
theorem dX12_cellHere_20 : decode cX12_cellHere 20 = .ok (.iastore, 1) := by decide +kernel
theorem dX12_cellHere_21 : decode cX12_cellHere 21 = .ok (.iconst 1, 1) := by decide +kernel
theorem dX12_cellHere_22 : decode cX12_cellHere 22 = .ok (.ireturn, 1) := by decide +kernel
def m_cellHere (N : Nat) (a1 a2 a3 : Int) (M : jMem) : Option (Int × jMem) := jb1 (m_numberHere N a2 a3 M) fun r1 M2 => (if r1 = 0 then some (0, M2) else jchk (0 ≤ a1 ∧ a1 < 81) <| jlt (up M2 6 a1 ((M2 0 10))) fun M4 => some (1, M4))
theorem c_m_cellHere {l : Launch} {g : jG} (N : Nat) (a1 a2 a3 : Int) (M : jMem)  : ∀ o, m_cellHere N a1 a2 a3 M = some o → jCt l g jTM yX12_cellHere cX12_cellHere 4 (some .boolean) 0 5 [(2, 0), (0, a1), (0, a2), (0, a3)] M o := by
  refine jMet (own := RX12) (em := id) (L := [(0, 2, 0), (1, 0, a1), (2, 0, a2), (3, 0, a3)]) (by decide +kernel) rfl (Nat.le_of_ble_eq_true rfl) rfl (fun K hR => ?_)
  unfold m_cellHere
  refine z_aload_n (pc := 0) hR 0 dX12_cellHere_0 rfl rfl ?_
  refine z_iload_n (pc := 1) hR 2 dX12_cellHere_1 rfl rfl ?_
  refine z_iload_n (pc := 2) hR 3 dX12_cellHere_2 rfl rfl ?_
  refine z_callv1 (pc := 3) hR (As := [(0, a2), (0, a3)]) (st := []) jm_X12_numberHere jl_RX12_176 kmo_0 (by decide) rfl (by decide) (c_m_numberHere N a2 a3 M) rfl (by decide) (by decide) rfl (Nat.le_of_ble_eq_true rfl) dX12_cellHere_3 (fun r1 M2 => ?_)
  refine z_ifne (pc := 6) (tgt := 11) hR dX12_cellHere_6 (by decide) ?_ ?_
  · refine z_aload_n (pc := 11) hR 0 dX12_cellHere_11 rfl rfl ?_
    refine z_getr (pc := 12) hR (c0 := 6) (r := 6) jf_RX12_26 kmo_0 (by decide) rfl rfl dX12_cellHere_12 ?_
    refine z_iload_n (pc := 15) hR 1 dX12_cellHere_15 rfl rfl ?_
    refine z_aload_n (pc := 16) hR 0 dX12_cellHere_16 rfl rfl ?_
    refine z_geti (pc := 17) hR (j := 10) jf_RX12_124 kmo_0 (by decide) rfl rfl dX12_cellHere_17 ?_
    refine z_chk (fun hc3 => ?_)
    refine z_iast (pc := 20) hR (n := 81) kma_6 hc3.1 hc3.2 dX12_cellHere_20 (fun M4 => ?_)
    refine z_iconst (pc := 21) hR dX12_cellHere_21 rfl ?_
    exact z_zreturn (pc := 22) hR rfl rfl (Or.inr rfl) dX12_cellHere_22 rfl
  · refine z_iconst (pc := 9) hR dX12_cellHere_9 rfl ?_
    exact z_zreturn (pc := 10) hR rfl rfl (Or.inl rfl) dX12_cellHere_10 rfl
theorem dX12_isParishHere_0 : decode cX12_isParishHere 0 = .ok (.aload_n 0, 1) := by decide +kernel
theorem dX12_isParishHere_1 : decode cX12_isParishHere 1 = .ok (.getfield 26, 3) := by decide +kernel
theorem dX12_isParishHere_4 : decode cX12_isParishHere 4 = .ok (.iconst 0, 1) := by decide +kernel
theorem dX12_isParishHere_5 : decode cX12_isParishHere 5 = .ok (.iaload, 1) := by decide +kernel
theorem dX12_isParishHere_6 : decode cX12_isParishHere 6 = .ok (.ifCond .le 10, 3) := by decide +kernel
theorem dX12_isParishHere_9 : decode cX12_isParishHere 9 = .ok (.aload_n 0, 1) := by decide +kernel
theorem dX12_isParishHere_10 : decode cX12_isParishHere 10 = .ok (.iconst 4, 1) := by decide +kernel
theorem dX12_isParishHere_11 : decode cX12_isParishHere 11 = .ok (.iload_n 1, 1) := by decide +kernel
theorem dX12_isParishHere_12 : decode cX12_isParishHere 12 = .ok (.invokevirtual 120, 3) := by decide +kernel
theorem dX12_isParishHere_15 : decode cX12_isParishHere 15 = .ok (.ireturn, 1) := by decide +kernel
theorem dX12_isParishHere_16 : decode cX12_isParishHere 16 = .ok (.aload_n 0, 1) := by decide +kernel
theorem dX12_isParishHere_17 : decode cX12_isParishHere 17 = .ok (.invokevirtual 114, 3) := by decide +kernel
theorem dX12_isParishHere_20 : decode cX12_isParishHere 20 = .ok (.aload_n 0, 1) := by decide +kernel
theorem dX12_isParishHere_21 : decode cX12_isParishHere 21 = .ok (.iconst 1, 1) := by decide +kernel
theorem dX12_isParishHere_22 : decode cX12_isParishHere 22 = .ok (.iconst 2, 1) := by decide +kernel
theorem dX12_isParishHere_23 : decode cX12_isParishHere 23 = .ok (.bipush 7, 2) := by decide +kernel
theorem dX12_isParishHere_25 : decode cX12_isParishHere 25 = .ok (.invokevirtual 227, 3) := by decide +kernel
theorem dX12_isParishHere_28 : decode cX12_isParishHere 28 = .ok (.ifCond .eq 14, 3) := by decide +kernel
theorem dX12_isParishHere_31 : decode cX12_isParishHere 31 = .ok (.aload_n 0, 1) := by decide +kernel
theorem dX12_isParishHere_32 : decode cX12_isParishHere 32 = .ok (.iconst 2, 1) := by decide +kernel
theorem dX12_isParishHere_33 : decode cX12_isParishHere 33 = .ok (.iconst 0, 1) := by decide +kernel
theorem dX12_isParishHere_34 : decode cX12_isParishHere 34 = .ok (.bipush 9, 2) := by decide +kernel
theorem dX12_isParishHere_36 : decode cX12_isParishHere 36 = .ok (.invokevirtual 227, 3) := by decide +kernel
theorem dX12_isParishHere_39 : decode cX12_isParishHere 39 = .ok (.ifCond .ne 5, 3) := by decide +kernel
theorem dX12_isParishHere_42 : decode cX12_isParishHere 42 = .ok (.iconst 0, 1) := by decide +kernel
theorem dX12_isParishHere_43 : decode cX12_isParishHere 43 = .ok (.ireturn, 1) := by decide +kernel
theorem dX12_isParishHere_44 : decode cX12_isParishHere 44 = .ok (.iconst 0, 1) := by decide +kernel
theorem dX12_isParishHere_45 : decode cX12_isParishHere 45 = .ok (.istore_n 2, 1) := by decide +kernel
theorem dX12_isParishHere_46 : decode cX12_isParishHere 46 = .ok (.iload_n 2, 1) := by decide +kernel
theorem dX12_isParishHere_47 : decode cX12_isParishHere 47 = .ok (.bipush 7, 2) := by decide +kernel
theorem dX12_isParishHere_49 : decode cX12_isParishHere 49 = .ok (.if_icmp .ge 40, 3) := by decide +kernel
theorem dX12_isParishHere_52 : decode cX12_isParishHere 52 = .ok (.aload_n 0, 1) := by decide +kernel
theorem dX12_isParishHere_53 : decode cX12_isParishHere 53 = .ok (.getfield 26, 3) := by decide +kernel
theorem dX12_isParishHere_56 : decode cX12_isParishHere 56 = .ok (.bipush 60, 2) := by decide +kernel
theorem dX12_isParishHere_58 : decode cX12_isParishHere 58 = .ok (.iload_n 2, 1) := by decide +kernel
theorem dX12_isParishHere_59 : decode cX12_isParishHere 59 = .ok (.iadd, 1) := by decide +kernel
theorem dX12_isParishHere_60 : decode cX12_isParishHere 60 = .ok (.bipush 9, 2) := by decide +kernel
theorem dX12_isParishHere_62 : decode cX12_isParishHere 62 = .ok (.iastore, 1) := by decide +kernel
theorem dX12_isParishHere_63 : decode cX12_isParishHere 63 = .ok (.aload_n 0, 1) := by decide +kernel
theorem dX12_isParishHere_64 : decode cX12_isParishHere 64 = .ok (.getfield 26, 3) := by decide +kernel
theorem dX12_isParishHere_67 : decode cX12_isParishHere 67 = .ok (.bipush 46, 2) := by decide +kernel
theorem dX12_isParishHere_69 : decode cX12_isParishHere 69 = .ok (.iload_n 2, 1) := by decide +kernel
theorem dX12_isParishHere_70 : decode cX12_isParishHere 70 = .ok (.iadd, 1) := by decide +kernel
theorem dX12_isParishHere_71 : decode cX12_isParishHere 71 = .ok (.iconst 1, 1) := by decide +kernel
theorem dX12_isParishHere_72 : decode cX12_isParishHere 72 = .ok (.iastore, 1) := by decide +kernel
theorem dX12_isParishHere_73 : decode cX12_isParishHere 73 = .ok (.aload_n 0, 1) := by decide +kernel
theorem dX12_isParishHere_74 : decode cX12_isParishHere 74 = .ok (.getfield 26, 3) := by decide +kernel
theorem dX12_isParishHere_77 : decode cX12_isParishHere 77 = .ok (.bipush 74, 2) := by decide +kernel
theorem dX12_isParishHere_79 : decode cX12_isParishHere 79 = .ok (.iload_n 2, 1) := by decide +kernel
theorem dX12_isParishHere_80 : decode cX12_isParishHere 80 = .ok (.iadd, 1) := by decide +kernel
theorem dX12_isParishHere_81 : decode cX12_isParishHere 81 = .ok (.iconst 2, 1) := by decide +kernel
theorem dX12_isParishHere_82 : decode cX12_isParishHere 82 = .ok (.iastore, 1) := by decide +kernel
theorem dX12_isParishHere_83 : decode cX12_isParishHere 83 = .ok (.iinc 2 1, 3) := by decide +kernel
theorem dX12_isParishHere_86 : decode cX12_isParishHere 86 = .ok (.goto (-40), 3) := by decide +kernel
theorem dX12_isParishHere_89 : decode cX12_isParishHere 89 = .ok (.aload_n 0, 1) := by decide +kernel
theorem dX12_isParishHere_90 : decode cX12_isParishHere 90 = .ok (.getfield 26, 3) := by decide +kernel
theorem dX12_isParishHere_93 : decode cX12_isParishHere 93 = .ok (.iconst 0, 1) := by decide +kernel
theorem dX12_isParishHere_94 : decode cX12_isParishHere 94 = .ok (.iconst 1, 1) := by decide +kernel
theorem dX12_isParishHere_95 : decode cX12_isParishHere 95 = .ok (.iastore, 1) := by decide +kernel
theorem dX12_isParishHere_96 : decode cX12_isParishHere 96 = .ok (.iconst 1, 1) := by decide +kernel
theorem dX12_isParishHere_97 : decode cX12_isParishHere 97 = .ok (.ireturn, 1) := by decide +kernel
def m_isParishHere_L46 (N : Nat)  (h46 : (Int × jMem) → Option (Int × jMem)) : Int × jMem → Option (Int × jMem)
  | (x6, M7) => (if x6 < 7 then jchk (0 ≤ (w32 (60 + x6)) ∧ (w32 (60 + x6)) < 81) <| jlt (up M7 6 ((w32 (60 + x6))) 9) fun M10 => jchk (0 ≤ (w32 (46 + x6)) ∧ (w32 (46 + x6)) < 81) <| jlt (up M10 6 ((w32 (46 + x6))) 1) fun M12 => jchk (0 ≤ (w32 (74 + x6)) ∧ (w32 (74 + x6)) < 81) <| jlt (up M12 6 ((w32 (74 + x6))) 2) fun M14 => h46 ((w32 (x6 + 1)), M14) else jlt (up M7 6 0 1) fun M8 => some (1, M8))
def m_isParishHere (N : Nat) (a1 : Int) (M : jMem) : Option (Int × jMem) := (if 0 < (M 6 0) then jb1 (m_fails N 4 a1 M) fun r15 M16 => jchk (r15 = 0 ∨ r15 = 1) <| some (r15, M16) else jbv (m_passWord N M) fun M1 => jb1 (m_cellHere N 1 2 7 M1) fun r2 M3 => (if r2 = 0 then some (0, M3) else jb1 (m_cellHere N 2 0 9 M3) fun r4 M5 => (if r4 = 0 then some (0, M5) else jfix N (m_isParishHere_L46 N) (0, M5))))
theorem c_m_isParishHere {l : Launch} {g : jG} (N : Nat) (a1 : Int) (M : jMem)  : ∀ o, m_isParishHere N a1 M = some o → jCt l g jTM yX12_isParishHere cX12_isParishHere 3 (some .boolean) 0 7 [(2, 0), (0, a1)] M o := by
  refine jMet (own := RX12) (em := id) (L := [(0, 2, 0), (1, 0, a1)]) (by decide +kernel) rfl (Nat.le_of_ble_eq_true rfl) rfl (fun K hR => ?_)
  unfold m_isParishHere
  refine z_aload_n (pc := 0) hR 0 dX12_isParishHere_0 rfl rfl ?_
  refine z_getr (pc := 1) hR (c0 := 6) (r := 6) jf_RX12_26 kmo_0 (by decide) rfl rfl dX12_isParishHere_1 ?_
  refine z_iconst (pc := 4) hR dX12_isParishHere_4 rfl ?_
  refine z_iald (pc := 5) hR (n := 81) kma_6 (by decide) (by decide) dX12_isParishHere_5 ?_
  refine z_ifle (pc := 6) (tgt := 16) hR dX12_isParishHere_6 (by decide) ?_ ?_
  · refine z_aload_n (pc := 16) hR 0 dX12_isParishHere_16 rfl rfl ?_
    refine z_callv0 (pc := 17) (rk' := 3) hR (As := []) (st := []) jm_X12_passWord jl_RX12_114 kmo_0 (by decide) rfl (c_m_passWord N M) rfl (by decide) (by decide) rfl (Nat.le_of_ble_eq_true rfl) dX12_isParishHere_17 (fun M1 => ?_)
    refine z_aload_n (pc := 20) hR 0 dX12_isParishHere_20 rfl rfl ?_
    refine z_iconst (pc := 21) hR dX12_isParishHere_21 rfl ?_
    refine z_iconst (pc := 22) hR dX12_isParishHere_22 rfl ?_
    refine z_bipush (pc := 23) hR dX12_isParishHere_23 rfl ?_
    refine z_callv1 (pc := 25) hR (As := [(0, 1), (0, 2), (0, 7)]) (st := []) jm_X12_cellHere jl_RX12_227 kmo_0 (by decide) rfl (by decide) (c_m_cellHere N 1 2 7 M1) rfl (by decide) (by decide) rfl (Nat.le_of_ble_eq_true rfl) dX12_isParishHere_25 (fun r2 M3 => ?_)
    refine z_ifeq (pc := 28) (tgt := 42) hR dX12_isParishHere_28 (by decide) ?_ ?_
    · refine z_iconst (pc := 42) hR dX12_isParishHere_42 rfl ?_
      exact z_zreturn (pc := 43) hR rfl rfl (Or.inl rfl) dX12_isParishHere_43 rfl
    · refine z_aload_n (pc := 31) hR 0 dX12_isParishHere_31 rfl rfl ?_
      refine z_iconst (pc := 32) hR dX12_isParishHere_32 rfl ?_
      refine z_iconst (pc := 33) hR dX12_isParishHere_33 rfl ?_
      refine z_bipush (pc := 34) hR dX12_isParishHere_34 rfl ?_
      refine z_callv1 (pc := 36) hR (As := [(0, 2), (0, 0), (0, 9)]) (st := []) jm_X12_cellHere jl_RX12_227 kmo_0 (by decide) rfl (by decide) (c_m_cellHere N 2 0 9 M3) rfl (by decide) (by decide) rfl (Nat.le_of_ble_eq_true rfl) dX12_isParishHere_36 (fun r4 M5 => ?_)
      refine z_ifne (pc := 39) (tgt := 44) hR dX12_isParishHere_39 (by decide) ?_ ?_
      · refine z_iconst (pc := 44) hR dX12_isParishHere_44 rfl ?_
        refine z_istore_n (pc := 45) hR (lv' := [(2, 0, 0), (0, 2, 0), (1, 0, a1)]) dX12_isParishHere_45 rfl (by decide) rfl ?_
        refine z_pick (pc := 46) (lv' := [(0, 2, 0), (2, 0, 0)]) hR [1, 0] rfl ?_
        refine z_fix (σ := Int × jMem) (lv := fun s => [(0, 2, 0), (2, 0, s.1)]) (st := fun _ => []) (M := fun s => s.2) (fun h46 hh46 => ?_) N (0, M5)
        rintro ⟨x6, M7⟩
        show jZ K id 46 [(0, 2, 0), (2, 0, x6)] [] M7 _
        unfold m_isParishHere_L46
        refine z_iload_n (pc := 46) hR 1 dX12_isParishHere_46 rfl rfl ?_
        refine z_bipush (pc := 47) hR dX12_isParishHere_47 rfl ?_
        refine z_icmpge (pc := 49) (tgt := 89) hR dX12_isParishHere_49 (by decide) ?_ ?_
        · refine z_aload_n (pc := 89) hR 0 dX12_isParishHere_89 rfl rfl ?_
          refine z_getr (pc := 90) hR (c0 := 6) (r := 6) jf_RX12_26 kmo_0 (by decide) rfl rfl dX12_isParishHere_90 ?_
          refine z_iconst (pc := 93) hR dX12_isParishHere_93 rfl ?_
          refine z_iconst (pc := 94) hR dX12_isParishHere_94 rfl ?_
          refine z_iast (pc := 95) hR (n := 81) kma_6 (by decide) (by decide) dX12_isParishHere_95 (fun M8 => ?_)
          refine z_iconst (pc := 96) hR dX12_isParishHere_96 rfl ?_
          exact z_zreturn (pc := 97) hR rfl rfl (Or.inr rfl) dX12_isParishHere_97 rfl
        · refine z_aload_n (pc := 52) hR 0 dX12_isParishHere_52 rfl rfl ?_
          refine z_getr (pc := 53) hR (c0 := 6) (r := 6) jf_RX12_26 kmo_0 (by decide) rfl rfl dX12_isParishHere_53 ?_
          refine z_bipush (pc := 56) hR dX12_isParishHere_56 rfl ?_
          refine z_iload_n (pc := 58) hR 1 dX12_isParishHere_58 rfl rfl ?_
          refine z_iadd (pc := 59) hR dX12_isParishHere_59 ?_
          refine z_bipush (pc := 60) hR dX12_isParishHere_60 rfl ?_
          refine z_chk (fun hc9 => ?_)
          refine z_iast (pc := 62) hR (n := 81) kma_6 hc9.1 hc9.2 dX12_isParishHere_62 (fun M10 => ?_)
          refine z_aload_n (pc := 63) hR 0 dX12_isParishHere_63 rfl rfl ?_
          refine z_getr (pc := 64) hR (c0 := 6) (r := 6) jf_RX12_26 kmo_0 (by decide) rfl rfl dX12_isParishHere_64 ?_
          refine z_bipush (pc := 67) hR dX12_isParishHere_67 rfl ?_
          refine z_iload_n (pc := 69) hR 1 dX12_isParishHere_69 rfl rfl ?_
          refine z_iadd (pc := 70) hR dX12_isParishHere_70 ?_
          refine z_iconst (pc := 71) hR dX12_isParishHere_71 rfl ?_
          refine z_chk (fun hc11 => ?_)
          refine z_iast (pc := 72) hR (n := 81) kma_6 hc11.1 hc11.2 dX12_isParishHere_72 (fun M12 => ?_)
          refine z_aload_n (pc := 73) hR 0 dX12_isParishHere_73 rfl rfl ?_
          refine z_getr (pc := 74) hR (c0 := 6) (r := 6) jf_RX12_26 kmo_0 (by decide) rfl rfl dX12_isParishHere_74 ?_
          refine z_bipush (pc := 77) hR dX12_isParishHere_77 rfl ?_
          refine z_iload_n (pc := 79) hR 1 dX12_isParishHere_79 rfl rfl ?_
          refine z_iadd (pc := 80) hR dX12_isParishHere_80 ?_
          refine z_iconst (pc := 81) hR dX12_isParishHere_81 rfl ?_
          refine z_chk (fun hc13 => ?_)
          refine z_iast (pc := 82) hR (n := 81) kma_6 hc13.1 hc13.2 dX12_isParishHere_82 (fun M14 => ?_)
          refine z_iinc (pc := 83) hR (j := 1) (lv' := [(2, 0, (w32 (x6 + 1))), (0, 2, 0)]) dX12_isParishHere_83 rfl (by decide) rfl ?_
          refine z_goto (pc := 86) (tgt := 46) hR dX12_isParishHere_86 (by decide) ?_
          refine z_pick (pc := 46) (lv' := [(0, 2, 0), (2, 0, (w32 (x6 + 1)))]) hR [1, 0] rfl ?_
          exact hh46 ((w32 (x6 + 1)), M14)
      · refine z_iconst (pc := 42) hR dX12_isParishHere_42 rfl ?_
        exact z_zreturn (pc := 43) hR rfl rfl (Or.inl rfl) dX12_isParishHere_43 rfl
  · refine z_aload_n (pc := 9) hR 0 dX12_isParishHere_9 rfl rfl ?_
    refine z_iconst (pc := 10) hR dX12_isParishHere_10 rfl ?_
    refine z_iload_n (pc := 11) hR 1 dX12_isParishHere_11 rfl rfl ?_
    refine z_callv1 (pc := 12) hR (As := [(0, 4), (0, a1)]) (st := []) jm_X12_fails jl_RX12_120 kmo_0 (by decide) rfl (by decide) (c_m_fails N 4 a1 M) rfl (by decide) (by decide) rfl (Nat.le_of_ble_eq_true rfl) dX12_isParishHere_12 (fun r15 M16 => ?_)
    refine z_chk (fun hc17 => ?_)
    exact z_zreturn (pc := 15) hR rfl rfl hc17 dX12_isParishHere_15 rfl
theorem dX12_isWellHere_0 : decode cX12_isWellHere 0 = .ok (.aload_n 0, 1) := by decide +kernel
theorem dX12_isWellHere_1 : decode cX12_isWellHere 1 = .ok (.invokevirtual 114, 3) := by decide +kernel
theorem dX12_isWellHere_4 : decode cX12_isWellHere 4 = .ok (.aload_n 0, 1) := by decide +kernel
theorem dX12_isWellHere_5 : decode cX12_isWellHere 5 = .ok (.iconst 0, 1) := by decide +kernel
theorem dX12_isWellHere_6 : decode cX12_isWellHere 6 = .ok (.aload_n 0, 1) := by decide +kernel
theorem dX12_isWellHere_7 : decode cX12_isWellHere 7 = .ok (.getfield 26, 3) := by decide +kernel
theorem dX12_isWellHere_10 : decode cX12_isWellHere 10 = .ok (.iconst 1, 1) := by decide +kernel
theorem dX12_isWellHere_11 : decode cX12_isWellHere 11 = .ok (.iaload, 1) := by decide +kernel
theorem dX12_isWellHere_12 : decode cX12_isWellHere 12 = .ok (.iconst 1, 1) := by decide +kernel
theorem dX12_isWellHere_13 : decode cX12_isWellHere 13 = .ok (.isub, 1) := by decide +kernel
theorem dX12_isWellHere_14 : decode cX12_isWellHere 14 = .ok (.invokevirtual 176, 3) := by decide +kernel
theorem dX12_isWellHere_17 : decode cX12_isWellHere 17 = .ok (.ifCond .ne 5, 3) := by decide +kernel
theorem dX12_isWellHere_20 : decode cX12_isWellHere 20 = .ok (.iconst 0, 1) := by decide +kernel
theorem dX12_isWellHere_21 : decode cX12_isWellHere 21 = .ok (.ireturn, 1) := by decide +kernel
theorem dX12_isWellHere_22 : decode cX12_isWellHere 22 = .ok (.aload_n 0, 1) := by decide +kernel
theorem dX12_isWellHere_23 : decode cX12_isWellHere 23 = .ok (.getfield 124, 3) := by decide +kernel
theorem dX12_isWellHere_26 : decode cX12_isWellHere 26 = .ok (.istore_n 1, 1) := by decide +kernel
theorem dX12_isWellHere_27 : decode cX12_isWellHere 27 = .ok (.aload_n 0, 1) := by decide +kernel
theorem dX12_isWellHere_28 : decode cX12_isWellHere 28 = .ok (.bipush 60, 2) := by decide +kernel
theorem dX12_isWellHere_30 : decode cX12_isWellHere 30 = .ok (.iload_n 1, 1) := by decide +kernel
theorem dX12_isWellHere_31 : decode cX12_isWellHere 31 = .ok (.iadd, 1) := by decide +kernel
theorem dX12_isWellHere_32 : decode cX12_isWellHere 32 = .ok (.iconst 1, 1) := by decide +kernel
theorem dX12_isWellHere_33 : decode cX12_isWellHere 33 = .ok (.bipush 30, 2) := by decide +kernel
theorem dX12_isWellHere_35 : decode cX12_isWellHere 35 = .ok (.invokevirtual 227, 3) := by decide +kernel
theorem dX12_isWellHere_38 : decode cX12_isWellHere 38 = .ok (.ifCond .eq 21, 3) := by decide +kernel
theorem dX12_isWellHere_41 : decode cX12_isWellHere 41 = .ok (.aload_n 0, 1) := by decide +kernel
theorem dX12_isWellHere_42 : decode cX12_isWellHere 42 = .ok (.bipush 67, 2) := by decide +kernel
theorem dX12_isWellHere_44 : decode cX12_isWellHere 44 = .ok (.iload_n 1, 1) := by decide +kernel
theorem dX12_isWellHere_45 : decode cX12_isWellHere 45 = .ok (.iadd, 1) := by decide +kernel
theorem dX12_isWellHere_46 : decode cX12_isWellHere 46 = .ok (.iconst 0, 1) := by decide +kernel
theorem dX12_isWellHere_47 : decode cX12_isWellHere 47 = .ok (.bipush 60, 2) := by decide +kernel
theorem dX12_isWellHere_49 : decode cX12_isWellHere 49 = .ok (.invokevirtual 227, 3) := by decide +kernel
theorem dX12_isWellHere_52 : decode cX12_isWellHere 52 = .ok (.ifCond .eq 7, 3) := by decide +kernel
theorem dX12_isWellHere_55 : decode cX12_isWellHere 55 = .ok (.iconst 1, 1) := by decide +kernel
theorem dX12_isWellHere_56 : decode cX12_isWellHere 56 = .ok (.goto 4, 3) := by decide +kernel
theorem dX12_isWellHere_59 : decode cX12_isWellHere 59 = .ok (.iconst 0, 1) := by decide +kernel
theorem dX12_isWellHere_60 : decode cX12_isWellHere 60 = .ok (.ireturn, 1) := by decide +kernel
def m_isWellHere (N : Nat) (M : jMem) : Option (Int × jMem) := jbv (m_passWord N M) fun M1 => jb1 (m_numberHere N 0 ((w32 (((M1 6 1)) - 1))) M1) fun r2 M3 => (if r2 = 0 then some (0, M3) else jlt ((M3 0 10)) fun v4 => jb1 (m_cellHere N ((w32 (60 + v4))) 1 30 M3) fun r5 M6 => (if r5 = 0 then some (0, M6) else jb1 (m_cellHere N ((w32 (67 + v4))) 0 60 M6) fun r7 M8 => (if r7 = 0 then some (0, M8) else some (1, M8))))
theorem c_m_isWellHere {l : Launch} {g : jG} (N : Nat) (M : jMem)  : ∀ o, m_isWellHere N  M = some o → jCt l g jTM yX12_isWellHere cX12_isWellHere 2 (some .boolean) 0 7 [(2, 0)] M o := by
  refine jMet (own := RX12) (em := id) (L := [(0, 2, 0)]) (by decide +kernel) rfl (Nat.le_of_ble_eq_true rfl) rfl (fun K hR => ?_)
  unfold m_isWellHere
  refine z_aload_n (pc := 0) hR 0 dX12_isWellHere_0 rfl rfl ?_
  refine z_callv0 (pc := 1) (rk' := 3) hR (As := []) (st := []) jm_X12_passWord jl_RX12_114 kmo_0 (by decide) rfl (c_m_passWord N M) rfl (by decide) (by decide) rfl (Nat.le_of_ble_eq_true rfl) dX12_isWellHere_1 (fun M1 => ?_)
  refine z_aload_n (pc := 4) hR 0 dX12_isWellHere_4 rfl rfl ?_
  refine z_iconst (pc := 5) hR dX12_isWellHere_5 rfl ?_
  refine z_aload_n (pc := 6) hR 0 dX12_isWellHere_6 rfl rfl ?_
  refine z_getr (pc := 7) hR (c0 := 6) (r := 6) jf_RX12_26 kmo_0 (by decide) rfl rfl dX12_isWellHere_7 ?_
  refine z_iconst (pc := 10) hR dX12_isWellHere_10 rfl ?_
  refine z_iald (pc := 11) hR (n := 81) kma_6 (by decide) (by decide) dX12_isWellHere_11 ?_
  refine z_iconst (pc := 12) hR dX12_isWellHere_12 rfl ?_
  refine z_isub (pc := 13) hR dX12_isWellHere_13 ?_
  refine z_callv1 (pc := 14) hR (As := [(0, 0), (0, (w32 (((M1 6 1)) - 1)))]) (st := []) jm_X12_numberHere jl_RX12_176 kmo_0 (by decide) rfl (by decide) (c_m_numberHere N 0 ((w32 (((M1 6 1)) - 1))) M1) rfl (by decide) (by decide) rfl (Nat.le_of_ble_eq_true rfl) dX12_isWellHere_14 (fun r2 M3 => ?_)
  refine z_ifne (pc := 17) (tgt := 22) hR dX12_isWellHere_17 (by decide) ?_ ?_
  · refine z_aload_n (pc := 22) hR 0 dX12_isWellHere_22 rfl rfl ?_
    refine z_geti (pc := 23) hR (j := 10) jf_RX12_124 kmo_0 (by decide) rfl rfl dX12_isWellHere_23 ?_
    refine z_let1 (fun v4 => ?_)
    refine z_istore_n (pc := 26) hR (lv' := [(1, 0, v4), (0, 2, 0)]) dX12_isWellHere_26 rfl (by decide) rfl ?_
    refine z_aload_n (pc := 27) hR 1 dX12_isWellHere_27 rfl rfl ?_
    refine z_bipush (pc := 28) hR dX12_isWellHere_28 rfl ?_
    refine z_iload_n (pc := 30) hR 0 dX12_isWellHere_30 rfl rfl ?_
    refine z_iadd (pc := 31) hR dX12_isWellHere_31 ?_
    refine z_iconst (pc := 32) hR dX12_isWellHere_32 rfl ?_
    refine z_bipush (pc := 33) hR dX12_isWellHere_33 rfl ?_
    refine z_callv1 (pc := 35) hR (As := [(0, (w32 (60 + v4))), (0, 1), (0, 30)]) (st := []) jm_X12_cellHere jl_RX12_227 kmo_0 (by decide) rfl (by decide) (c_m_cellHere N ((w32 (60 + v4))) 1 30 M3) rfl (by decide) (by decide) rfl (Nat.le_of_ble_eq_true rfl) dX12_isWellHere_35 (fun r5 M6 => ?_)
    refine z_ifeq (pc := 38) (tgt := 59) hR dX12_isWellHere_38 (by decide) ?_ ?_
    · refine z_iconst (pc := 59) hR dX12_isWellHere_59 rfl ?_
      exact z_zreturn (pc := 60) hR rfl rfl (Or.inl rfl) dX12_isWellHere_60 rfl
    · refine z_aload_n (pc := 41) hR 1 dX12_isWellHere_41 rfl rfl ?_
      refine z_bipush (pc := 42) hR dX12_isWellHere_42 rfl ?_
      refine z_iload_n (pc := 44) hR 0 dX12_isWellHere_44 rfl rfl ?_
      refine z_iadd (pc := 45) hR dX12_isWellHere_45 ?_
      refine z_iconst (pc := 46) hR dX12_isWellHere_46 rfl ?_
      refine z_bipush (pc := 47) hR dX12_isWellHere_47 rfl ?_
      refine z_callv1 (pc := 49) hR (As := [(0, (w32 (67 + v4))), (0, 0), (0, 60)]) (st := []) jm_X12_cellHere jl_RX12_227 kmo_0 (by decide) rfl (by decide) (c_m_cellHere N ((w32 (67 + v4))) 0 60 M6) rfl (by decide) (by decide) rfl (Nat.le_of_ble_eq_true rfl) dX12_isWellHere_49 (fun r7 M8 => ?_)
      refine z_ifeq (pc := 52) (tgt := 59) hR dX12_isWellHere_52 (by decide) ?_ ?_
      · refine z_iconst (pc := 59) hR dX12_isWellHere_59 rfl ?_
        exact z_zreturn (pc := 60) hR rfl rfl (Or.inl rfl) dX12_isWellHere_60 rfl
      · refine z_iconst (pc := 55) hR dX12_isWellHere_55 rfl ?_
        refine z_goto (pc := 56) (tgt := 60) hR dX12_isWellHere_56 (by decide) ?_
        exact z_zreturn (pc := 60) hR rfl rfl (Or.inr rfl) dX12_isWellHere_60 rfl
  · refine z_iconst (pc := 20) hR dX12_isWellHere_20 rfl ?_
    exact z_zreturn (pc := 21) hR rfl rfl (Or.inl rfl) dX12_isWellHere_21 rfl
theorem dX12_isFarmHere_0 : decode cX12_isFarmHere 0 = .ok (.aload_n 0, 1) := by decide +kernel
theorem dX12_isFarmHere_1 : decode cX12_isFarmHere 1 = .ok (.invokevirtual 114, 3) := by decide +kernel
theorem dX12_isFarmHere_4 : decode cX12_isFarmHere 4 = .ok (.aload_n 0, 1) := by decide +kernel
theorem dX12_isFarmHere_5 : decode cX12_isFarmHere 5 = .ok (.iconst 0, 1) := by decide +kernel
theorem dX12_isFarmHere_6 : decode cX12_isFarmHere 6 = .ok (.aload_n 0, 1) := by decide +kernel
theorem dX12_isFarmHere_7 : decode cX12_isFarmHere 7 = .ok (.getfield 26, 3) := by decide +kernel
theorem dX12_isFarmHere_10 : decode cX12_isFarmHere 10 = .ok (.iconst 1, 1) := by decide +kernel
theorem dX12_isFarmHere_11 : decode cX12_isFarmHere 11 = .ok (.iaload, 1) := by decide +kernel
theorem dX12_isFarmHere_12 : decode cX12_isFarmHere 12 = .ok (.iconst 1, 1) := by decide +kernel
theorem dX12_isFarmHere_13 : decode cX12_isFarmHere 13 = .ok (.isub, 1) := by decide +kernel
theorem dX12_isFarmHere_14 : decode cX12_isFarmHere 14 = .ok (.invokevirtual 176, 3) := by decide +kernel
theorem dX12_isFarmHere_17 : decode cX12_isFarmHere 17 = .ok (.ifCond .ne 5, 3) := by decide +kernel
theorem dX12_isFarmHere_20 : decode cX12_isFarmHere 20 = .ok (.iconst 0, 1) := by decide +kernel
theorem dX12_isFarmHere_21 : decode cX12_isFarmHere 21 = .ok (.ireturn, 1) := by decide +kernel
theorem dX12_isFarmHere_22 : decode cX12_isFarmHere 22 = .ok (.aload_n 0, 1) := by decide +kernel
theorem dX12_isFarmHere_23 : decode cX12_isFarmHere 23 = .ok (.getfield 124, 3) := by decide +kernel
theorem dX12_isFarmHere_26 : decode cX12_isFarmHere 26 = .ok (.istore_n 1, 1) := by decide +kernel
theorem dX12_isFarmHere_27 : decode cX12_isFarmHere 27 = .ok (.aload_n 0, 1) := by decide +kernel
theorem dX12_isFarmHere_28 : decode cX12_isFarmHere 28 = .ok (.bipush 46, 2) := by decide +kernel
theorem dX12_isFarmHere_30 : decode cX12_isFarmHere 30 = .ok (.iload_n 1, 1) := by decide +kernel
theorem dX12_isFarmHere_31 : decode cX12_isFarmHere 31 = .ok (.iadd, 1) := by decide +kernel
theorem dX12_isFarmHere_32 : decode cX12_isFarmHere 32 = .ok (.iconst 0, 1) := by decide +kernel
theorem dX12_isFarmHere_33 : decode cX12_isFarmHere 33 = .ok (.iconst 5, 1) := by decide +kernel
theorem dX12_isFarmHere_34 : decode cX12_isFarmHere 34 = .ok (.invokevirtual 227, 3) := by decide +kernel
theorem dX12_isFarmHere_37 : decode cX12_isFarmHere 37 = .ok (.ifCond .eq 21, 3) := by decide +kernel
theorem dX12_isFarmHere_40 : decode cX12_isFarmHere 40 = .ok (.aload_n 0, 1) := by decide +kernel
theorem dX12_isFarmHere_41 : decode cX12_isFarmHere 41 = .ok (.bipush 74, 2) := by decide +kernel
theorem dX12_isFarmHere_43 : decode cX12_isFarmHere 43 = .ok (.iload_n 1, 1) := by decide +kernel
theorem dX12_isFarmHere_44 : decode cX12_isFarmHere 44 = .ok (.iadd, 1) := by decide +kernel
theorem dX12_isFarmHere_45 : decode cX12_isFarmHere 45 = .ok (.iconst 0, 1) := by decide +kernel
theorem dX12_isFarmHere_46 : decode cX12_isFarmHere 46 = .ok (.bipush 9, 2) := by decide +kernel
theorem dX12_isFarmHere_48 : decode cX12_isFarmHere 48 = .ok (.invokevirtual 227, 3) := by decide +kernel
theorem dX12_isFarmHere_51 : decode cX12_isFarmHere 51 = .ok (.ifCond .eq 7, 3) := by decide +kernel
theorem dX12_isFarmHere_54 : decode cX12_isFarmHere 54 = .ok (.iconst 1, 1) := by decide +kernel
theorem dX12_isFarmHere_55 : decode cX12_isFarmHere 55 = .ok (.goto 4, 3) := by decide +kernel
theorem dX12_isFarmHere_58 : decode cX12_isFarmHere 58 = .ok (.iconst 0, 1) := by decide +kernel
theorem dX12_isFarmHere_59 : decode cX12_isFarmHere 59 = .ok (.ireturn, 1) := by decide +kernel
def m_isFarmHere (N : Nat) (M : jMem) : Option (Int × jMem) := jbv (m_passWord N M) fun M1 => jb1 (m_numberHere N 0 ((w32 (((M1 6 1)) - 1))) M1) fun r2 M3 => (if r2 = 0 then some (0, M3) else jlt ((M3 0 10)) fun v4 => jb1 (m_cellHere N ((w32 (46 + v4))) 0 5 M3) fun r5 M6 => (if r5 = 0 then some (0, M6) else jb1 (m_cellHere N ((w32 (74 + v4))) 0 9 M6) fun r7 M8 => (if r7 = 0 then some (0, M8) else some (1, M8))))
theorem c_m_isFarmHere {l : Launch} {g : jG} (N : Nat) (M : jMem)  : ∀ o, m_isFarmHere N  M = some o → jCt l g jTM yX12_isFarmHere cX12_isFarmHere 2 (some .boolean) 0 7 [(2, 0)] M o := by
  refine jMet (own := RX12) (em := id) (L := [(0, 2, 0)]) (by decide +kernel) rfl (Nat.le_of_ble_eq_true rfl) rfl (fun K hR => ?_)
  unfold m_isFarmHere
  refine z_aload_n (pc := 0) hR 0 dX12_isFarmHere_0 rfl rfl ?_
  refine z_callv0 (pc := 1) (rk' := 3) hR (As := []) (st := []) jm_X12_passWord jl_RX12_114 kmo_0 (by decide) rfl (c_m_passWord N M) rfl (by decide) (by decide) rfl (Nat.le_of_ble_eq_true rfl) dX12_isFarmHere_1 (fun M1 => ?_)
  refine z_aload_n (pc := 4) hR 0 dX12_isFarmHere_4 rfl rfl ?_
  refine z_iconst (pc := 5) hR dX12_isFarmHere_5 rfl ?_
  refine z_aload_n (pc := 6) hR 0 dX12_isFarmHere_6 rfl rfl ?_
  refine z_getr (pc := 7) hR (c0 := 6) (r := 6) jf_RX12_26 kmo_0 (by decide) rfl rfl dX12_isFarmHere_7 ?_
  refine z_iconst (pc := 10) hR dX12_isFarmHere_10 rfl ?_
  refine z_iald (pc := 11) hR (n := 81) kma_6 (by decide) (by decide) dX12_isFarmHere_11 ?_
  refine z_iconst (pc := 12) hR dX12_isFarmHere_12 rfl ?_
  refine z_isub (pc := 13) hR dX12_isFarmHere_13 ?_
  refine z_callv1 (pc := 14) hR (As := [(0, 0), (0, (w32 (((M1 6 1)) - 1)))]) (st := []) jm_X12_numberHere jl_RX12_176 kmo_0 (by decide) rfl (by decide) (c_m_numberHere N 0 ((w32 (((M1 6 1)) - 1))) M1) rfl (by decide) (by decide) rfl (Nat.le_of_ble_eq_true rfl) dX12_isFarmHere_14 (fun r2 M3 => ?_)
  refine z_ifne (pc := 17) (tgt := 22) hR dX12_isFarmHere_17 (by decide) ?_ ?_
  · refine z_aload_n (pc := 22) hR 0 dX12_isFarmHere_22 rfl rfl ?_
    refine z_geti (pc := 23) hR (j := 10) jf_RX12_124 kmo_0 (by decide) rfl rfl dX12_isFarmHere_23 ?_
    refine z_let1 (fun v4 => ?_)
    refine z_istore_n (pc := 26) hR (lv' := [(1, 0, v4), (0, 2, 0)]) dX12_isFarmHere_26 rfl (by decide) rfl ?_
    refine z_aload_n (pc := 27) hR 1 dX12_isFarmHere_27 rfl rfl ?_
    refine z_bipush (pc := 28) hR dX12_isFarmHere_28 rfl ?_
    refine z_iload_n (pc := 30) hR 0 dX12_isFarmHere_30 rfl rfl ?_
    refine z_iadd (pc := 31) hR dX12_isFarmHere_31 ?_
    refine z_iconst (pc := 32) hR dX12_isFarmHere_32 rfl ?_
    refine z_iconst (pc := 33) hR dX12_isFarmHere_33 rfl ?_
    refine z_callv1 (pc := 34) hR (As := [(0, (w32 (46 + v4))), (0, 0), (0, 5)]) (st := []) jm_X12_cellHere jl_RX12_227 kmo_0 (by decide) rfl (by decide) (c_m_cellHere N ((w32 (46 + v4))) 0 5 M3) rfl (by decide) (by decide) rfl (Nat.le_of_ble_eq_true rfl) dX12_isFarmHere_34 (fun r5 M6 => ?_)
    refine z_ifeq (pc := 37) (tgt := 58) hR dX12_isFarmHere_37 (by decide) ?_ ?_
    · refine z_iconst (pc := 58) hR dX12_isFarmHere_58 rfl ?_
      exact z_zreturn (pc := 59) hR rfl rfl (Or.inl rfl) dX12_isFarmHere_59 rfl
    · refine z_aload_n (pc := 40) hR 1 dX12_isFarmHere_40 rfl rfl ?_
      refine z_bipush (pc := 41) hR dX12_isFarmHere_41 rfl ?_
      refine z_iload_n (pc := 43) hR 0 dX12_isFarmHere_43 rfl rfl ?_
      refine z_iadd (pc := 44) hR dX12_isFarmHere_44 ?_
      refine z_iconst (pc := 45) hR dX12_isFarmHere_45 rfl ?_
      refine z_bipush (pc := 46) hR dX12_isFarmHere_46 rfl ?_
      refine z_callv1 (pc := 48) hR (As := [(0, (w32 (74 + v4))), (0, 0), (0, 9)]) (st := []) jm_X12_cellHere jl_RX12_227 kmo_0 (by decide) rfl (by decide) (c_m_cellHere N ((w32 (74 + v4))) 0 9 M6) rfl (by decide) (by decide) rfl (Nat.le_of_ble_eq_true rfl) dX12_isFarmHere_48 (fun r7 M8 => ?_)
      refine z_ifeq (pc := 51) (tgt := 58) hR dX12_isFarmHere_51 (by decide) ?_ ?_
      · refine z_iconst (pc := 58) hR dX12_isFarmHere_58 rfl ?_
        exact z_zreturn (pc := 59) hR rfl rfl (Or.inl rfl) dX12_isFarmHere_59 rfl
      · refine z_iconst (pc := 54) hR dX12_isFarmHere_54 rfl ?_
        refine z_goto (pc := 55) (tgt := 59) hR dX12_isFarmHere_55 (by decide) ?_
        exact z_zreturn (pc := 59) hR rfl rfl (Or.inr rfl) dX12_isFarmHere_59 rfl
  · refine z_iconst (pc := 20) hR dX12_isFarmHere_20 rfl ?_
    exact z_zreturn (pc := 21) hR rfl rfl (Or.inl rfl) dX12_isFarmHere_21 rfl
theorem dX12_isKinHere_0 : decode cX12_isKinHere 0 = .ok (.aload_n 0, 1) := by decide +kernel
theorem dX12_isKinHere_1 : decode cX12_isKinHere 1 = .ok (.invokevirtual 114, 3) := by decide +kernel
theorem dX12_isKinHere_4 : decode cX12_isKinHere 4 = .ok (.aload_n 0, 1) := by decide +kernel
theorem dX12_isKinHere_5 : decode cX12_isKinHere 5 = .ok (.iconst 0, 1) := by decide +kernel
theorem dX12_isKinHere_6 : decode cX12_isKinHere 6 = .ok (.aload_n 0, 1) := by decide +kernel
theorem dX12_isKinHere_7 : decode cX12_isKinHere 7 = .ok (.getfield 26, 3) := by decide +kernel
theorem dX12_isKinHere_10 : decode cX12_isKinHere 10 = .ok (.iconst 1, 1) := by decide +kernel
theorem dX12_isKinHere_11 : decode cX12_isKinHere 11 = .ok (.iaload, 1) := by decide +kernel
theorem dX12_isKinHere_12 : decode cX12_isKinHere 12 = .ok (.iconst 1, 1) := by decide +kernel
theorem dX12_isKinHere_13 : decode cX12_isKinHere 13 = .ok (.isub, 1) := by decide +kernel
theorem dX12_isKinHere_14 : decode cX12_isKinHere 14 = .ok (.invokevirtual 176, 3) := by decide +kernel
theorem dX12_isKinHere_17 : decode cX12_isKinHere 17 = .ok (.ifCond .ne 5, 3) := by decide +kernel
theorem dX12_isKinHere_20 : decode cX12_isKinHere 20 = .ok (.iconst 0, 1) := by decide +kernel
theorem dX12_isKinHere_21 : decode cX12_isKinHere 21 = .ok (.ireturn, 1) := by decide +kernel
theorem dX12_isKinHere_22 : decode cX12_isKinHere 22 = .ok (.aload_n 0, 1) := by decide +kernel
theorem dX12_isKinHere_23 : decode cX12_isKinHere 23 = .ok (.getfield 124, 3) := by decide +kernel
theorem dX12_isKinHere_26 : decode cX12_isKinHere 26 = .ok (.istore_n 1, 1) := by decide +kernel
theorem dX12_isKinHere_27 : decode cX12_isKinHere 27 = .ok (.aload_n 0, 1) := by decide +kernel
theorem dX12_isKinHere_28 : decode cX12_isKinHere 28 = .ok (.invokevirtual 102, 3) := by decide +kernel
theorem dX12_isKinHere_31 : decode cX12_isKinHere 31 = .ok (.pop, 1) := by decide +kernel
theorem dX12_isKinHere_32 : decode cX12_isKinHere 32 = .ok (.aload_n 0, 1) := by decide +kernel
theorem dX12_isKinHere_33 : decode cX12_isKinHere 33 = .ok (.getfield 99, 3) := by decide +kernel
theorem dX12_isKinHere_36 : decode cX12_isKinHere 36 = .ok (.istore_n 2, 1) := by decide +kernel
theorem dX12_isKinHere_37 : decode cX12_isKinHere 37 = .ok (.aload_n 0, 1) := by decide +kernel
theorem dX12_isKinHere_38 : decode cX12_isKinHere 38 = .ok (.iconst 0, 1) := by decide +kernel
theorem dX12_isKinHere_39 : decode cX12_isKinHere 39 = .ok (.aload_n 0, 1) := by decide +kernel
theorem dX12_isKinHere_40 : decode cX12_isKinHere 40 = .ok (.getfield 26, 3) := by decide +kernel
theorem dX12_isKinHere_43 : decode cX12_isKinHere 43 = .ok (.iconst 1, 1) := by decide +kernel
theorem dX12_isKinHere_44 : decode cX12_isKinHere 44 = .ok (.iaload, 1) := by decide +kernel
theorem dX12_isKinHere_45 : decode cX12_isKinHere 45 = .ok (.iconst 1, 1) := by decide +kernel
theorem dX12_isKinHere_46 : decode cX12_isKinHere 46 = .ok (.isub, 1) := by decide +kernel
theorem dX12_isKinHere_47 : decode cX12_isKinHere 47 = .ok (.invokevirtual 176, 3) := by decide +kernel
theorem dX12_isKinHere_50 : decode cX12_isKinHere 50 = .ok (.ifCond .ne 5, 3) := by decide +kernel
theorem dX12_isKinHere_53 : decode cX12_isKinHere 53 = .ok (.iconst 0, 1) := by decide +kernel
theorem dX12_isKinHere_54 : decode cX12_isKinHere 54 = .ok (.ireturn, 1) := by decide +kernel
theorem dX12_isKinHere_55 : decode cX12_isKinHere 55 = .ok (.iload_n 1, 1) := by decide +kernel
theorem dX12_isKinHere_56 : decode cX12_isKinHere 56 = .ok (.aload_n 0, 1) := by decide +kernel
theorem dX12_isKinHere_57 : decode cX12_isKinHere 57 = .ok (.getfield 124, 3) := by decide +kernel
theorem dX12_isKinHere_60 : decode cX12_isKinHere 60 = .ok (.if_icmp .ne 10, 3) := by decide +kernel
theorem dX12_isKinHere_63 : decode cX12_isKinHere 63 = .ok (.aload_n 0, 1) := by decide +kernel
theorem dX12_isKinHere_64 : decode cX12_isKinHere 64 = .ok (.iconst 1, 1) := by decide +kernel
theorem dX12_isKinHere_65 : decode cX12_isKinHere 65 = .ok (.iload_n 2, 1) := by decide +kernel
theorem dX12_isKinHere_66 : decode cX12_isKinHere 66 = .ok (.invokevirtual 120, 3) := by decide +kernel
theorem dX12_isKinHere_69 : decode cX12_isKinHere 69 = .ok (.ireturn, 1) := by decide +kernel
theorem dX12_isKinHere_70 : decode cX12_isKinHere 70 = .ok (.aload_n 0, 1) := by decide +kernel
theorem dX12_isKinHere_71 : decode cX12_isKinHere 71 = .ok (.getfield 26, 3) := by decide +kernel
theorem dX12_isKinHere_74 : decode cX12_isKinHere 74 = .ok (.bipush 53, 2) := by decide +kernel
theorem dX12_isKinHere_76 : decode cX12_isKinHere 76 = .ok (.iload_n 1, 1) := by decide +kernel
theorem dX12_isKinHere_77 : decode cX12_isKinHere 77 = .ok (.iadd, 1) := by decide +kernel
theorem dX12_isKinHere_78 : decode cX12_isKinHere 78 = .ok (.dup2, 1) := by decide +kernel
theorem dX12_isKinHere_79 : decode cX12_isKinHere 79 = .ok (.iaload, 1) := by decide +kernel
theorem dX12_isKinHere_80 : decode cX12_isKinHere 80 = .ok (.iconst 1, 1) := by decide +kernel
theorem dX12_isKinHere_81 : decode cX12_isKinHere 81 = .ok (.aload_n 0, 1) := by decide +kernel
theorem dX12_isKinHere_82 : decode cX12_isKinHere 82 = .ok (.getfield 124, 3) := by decide +kernel
theorem dX12_isKinHere_85 : decode cX12_isKinHere 85 = .ok (.ishl, 1) := by decide +kernel
theorem dX12_isKinHere_86 : decode cX12_isKinHere 86 = .ok (.ior, 1) := by decide +kernel
theorem dX12_isKinHere_87 : decode cX12_isKinHere 87 = .ok (.iastore, 1) := by decide +kernel
theorem dX12_isKinHere_88 : decode cX12_isKinHere 88 = .ok (.aload_n 0, 1) := by decide +kernel
theorem dX12_isKinHere_89 : decode cX12_isKinHere 89 = .ok (.getfield 26, 3) := by decide +kernel
theorem dX12_isKinHere_92 : decode cX12_isKinHere 92 = .ok (.bipush 53, 2) := by decide +kernel
theorem dX12_isKinHere_94 : decode cX12_isKinHere 94 = .ok (.aload_n 0, 1) := by decide +kernel
theorem dX12_isKinHere_95 : decode cX12_isKinHere 95 = .ok (.getfield 124, 3) := by decide +kernel
theorem dX12_isKinHere_98 : decode cX12_isKinHere 98 = .ok (.iadd, 1) := by decide +kernel
theorem dX12_isKinHere_99 : decode cX12_isKinHere 99 = .ok (.dup2, 1) := by decide +kernel
theorem dX12_isKinHere_100 : decode cX12_isKinHere 100 = .ok (.iaload, 1) := by decide +kernel
theorem dX12_isKinHere_101 : decode cX12_isKinHere 101 = .ok (.iconst 1, 1) := by decide +kernel
theorem dX12_isKinHere_102 : decode cX12_isKinHere 102 = .ok (.iload_n 1, 1) := by decide +kernel
theorem dX12_isKinHere_103 : decode cX12_isKinHere 103 = .ok (.ishl, 1) := by decide +kernel
theorem dX12_isKinHere_104 : decode cX12_isKinHere 104 = .ok (.ior, 1) := by decide +kernel
theorem dX12_isKinHere_105 : decode cX12_isKinHere 105 = .ok (.iastore, 1) := by decide +kernel
theorem dX12_isKinHere_106 : decode cX12_isKinHere 106 = .ok (.iconst 1, 1) := by decide +kernel
theorem dX12_isKinHere_107 : decode cX12_isKinHere 107 = .ok (.ireturn, 1) := by decide +kernel
def m_isKinHere (N : Nat) (M : jMem) : Option (Int × jMem) := jbv (m_passWord N M) fun M1 => jb1 (m_numberHere N 0 ((w32 (((M1 6 1)) - 1))) M1) fun r2 M3 => (if r2 = 0 then some (0, M3) else jlt ((M3 0 10)) fun v4 => jb1 (m_see N M3) fun r5 M6 => jlt ((M6 0 8)) fun v7 => jb1 (m_numberHere N 0 ((w32 (((M6 6 1)) - 1))) M6) fun r8 M9 => (if r8 = 0 then some (0, M9) else (if v4 = (M9 0 10) then jb1 (m_fails N 1 v7 M9) fun r16 M17 => jchk (r16 = 0 ∨ r16 = 1) <| some (r16, M17) else jchk (0 ≤ (w32 (53 + v4)) ∧ (w32 (53 + v4)) < 81) <| jchk (0 ≤ (w32 (53 + v4)) ∧ (w32 (53 + v4)) < 81) <| jlt (up M9 6 ((w32 (53 + v4))) ((jor ((M9 6 ((w32 (53 + v4))))) ((jshl 1 ((M9 0 10))))))) fun M12 => jchk (0 ≤ (w32 (53 + ((M12 0 10)))) ∧ (w32 (53 + ((M12 0 10)))) < 81) <| jchk (0 ≤ (w32 (53 + ((M12 0 10)))) ∧ (w32 (53 + ((M12 0 10)))) < 81) <| jlt (up M12 6 ((w32 (53 + ((M12 0 10))))) ((jor ((M12 6 ((w32 (53 + ((M12 0 10))))))) ((jshl 1 v4))))) fun M15 => some (1, M15))))
theorem c_m_isKinHere {l : Launch} {g : jG} (N : Nat) (M : jMem)  : ∀ o, m_isKinHere N  M = some o → jCt l g jTM yX12_isKinHere cX12_isKinHere 3 (some .boolean) 0 5 [(2, 0)] M o := by
  refine jMet (own := RX12) (em := id) (L := [(0, 2, 0)]) (by decide +kernel) rfl (Nat.le_of_ble_eq_true rfl) rfl (fun K hR => ?_)
  unfold m_isKinHere
  refine z_aload_n (pc := 0) hR 0 dX12_isKinHere_0 rfl rfl ?_
  refine z_callv0 (pc := 1) (rk' := 3) hR (As := []) (st := []) jm_X12_passWord jl_RX12_114 kmo_0 (by decide) rfl (c_m_passWord N M) rfl (by decide) (by decide) rfl (Nat.le_of_ble_eq_true rfl) dX12_isKinHere_1 (fun M1 => ?_)
  refine z_aload_n (pc := 4) hR 0 dX12_isKinHere_4 rfl rfl ?_
  refine z_iconst (pc := 5) hR dX12_isKinHere_5 rfl ?_
  refine z_aload_n (pc := 6) hR 0 dX12_isKinHere_6 rfl rfl ?_
  refine z_getr (pc := 7) hR (c0 := 6) (r := 6) jf_RX12_26 kmo_0 (by decide) rfl rfl dX12_isKinHere_7 ?_
  refine z_iconst (pc := 10) hR dX12_isKinHere_10 rfl ?_
  refine z_iald (pc := 11) hR (n := 81) kma_6 (by decide) (by decide) dX12_isKinHere_11 ?_
  refine z_iconst (pc := 12) hR dX12_isKinHere_12 rfl ?_
  refine z_isub (pc := 13) hR dX12_isKinHere_13 ?_
  refine z_callv1 (pc := 14) hR (As := [(0, 0), (0, (w32 (((M1 6 1)) - 1)))]) (st := []) jm_X12_numberHere jl_RX12_176 kmo_0 (by decide) rfl (by decide) (c_m_numberHere N 0 ((w32 (((M1 6 1)) - 1))) M1) rfl (by decide) (by decide) rfl (Nat.le_of_ble_eq_true rfl) dX12_isKinHere_14 (fun r2 M3 => ?_)
  refine z_ifne (pc := 17) (tgt := 22) hR dX12_isKinHere_17 (by decide) ?_ ?_
  · refine z_aload_n (pc := 22) hR 0 dX12_isKinHere_22 rfl rfl ?_
    refine z_geti (pc := 23) hR (j := 10) jf_RX12_124 kmo_0 (by decide) rfl rfl dX12_isKinHere_23 ?_
    refine z_let1 (fun v4 => ?_)
    refine z_istore_n (pc := 26) hR (lv' := [(1, 0, v4), (0, 2, 0)]) dX12_isKinHere_26 rfl (by decide) rfl ?_
    refine z_aload_n (pc := 27) hR 1 dX12_isKinHere_27 rfl rfl ?_
    refine z_callv1 (pc := 28) hR (As := []) (st := []) jm_X12_see jl_RX12_102 kmo_0 (by decide) rfl (by decide) (c_m_see N M3) rfl (by decide) (by decide) rfl (Nat.le_of_ble_eq_true rfl) dX12_isKinHere_28 (fun r5 M6 => ?_)
    refine z_pop (pc := 31) hR dX12_isKinHere_31 (by decide) ?_
    refine z_aload_n (pc := 32) hR 1 dX12_isKinHere_32 rfl rfl ?_
    refine z_geti (pc := 33) hR (j := 8) jf_RX12_99 kmo_0 (by decide) rfl rfl dX12_isKinHere_33 ?_
    refine z_let1 (fun v7 => ?_)
    refine z_istore_n (pc := 36) hR (lv' := [(2, 0, v7), (1, 0, v4), (0, 2, 0)]) dX12_isKinHere_36 rfl (by decide) rfl ?_
    refine z_aload_n (pc := 37) hR 2 dX12_isKinHere_37 rfl rfl ?_
    refine z_iconst (pc := 38) hR dX12_isKinHere_38 rfl ?_
    refine z_aload_n (pc := 39) hR 2 dX12_isKinHere_39 rfl rfl ?_
    refine z_getr (pc := 40) hR (c0 := 6) (r := 6) jf_RX12_26 kmo_0 (by decide) rfl rfl dX12_isKinHere_40 ?_
    refine z_iconst (pc := 43) hR dX12_isKinHere_43 rfl ?_
    refine z_iald (pc := 44) hR (n := 81) kma_6 (by decide) (by decide) dX12_isKinHere_44 ?_
    refine z_iconst (pc := 45) hR dX12_isKinHere_45 rfl ?_
    refine z_isub (pc := 46) hR dX12_isKinHere_46 ?_
    refine z_callv1 (pc := 47) hR (As := [(0, 0), (0, (w32 (((M6 6 1)) - 1)))]) (st := []) jm_X12_numberHere jl_RX12_176 kmo_0 (by decide) rfl (by decide) (c_m_numberHere N 0 ((w32 (((M6 6 1)) - 1))) M6) rfl (by decide) (by decide) rfl (Nat.le_of_ble_eq_true rfl) dX12_isKinHere_47 (fun r8 M9 => ?_)
    refine z_ifne (pc := 50) (tgt := 55) hR dX12_isKinHere_50 (by decide) ?_ ?_
    · refine z_iload_n (pc := 55) hR 1 dX12_isKinHere_55 rfl rfl ?_
      refine z_aload_n (pc := 56) hR 2 dX12_isKinHere_56 rfl rfl ?_
      refine z_geti (pc := 57) hR (j := 10) jf_RX12_124 kmo_0 (by decide) rfl rfl dX12_isKinHere_57 ?_
      refine z_icmpne (pc := 60) (tgt := 70) hR dX12_isKinHere_60 (by decide) ?_ ?_
      · refine z_aload_n (pc := 70) hR 2 dX12_isKinHere_70 rfl rfl ?_
        refine z_getr (pc := 71) hR (c0 := 6) (r := 6) jf_RX12_26 kmo_0 (by decide) rfl rfl dX12_isKinHere_71 ?_
        refine z_bipush (pc := 74) hR dX12_isKinHere_74 rfl ?_
        refine z_iload_n (pc := 76) hR 1 dX12_isKinHere_76 rfl rfl ?_
        refine z_iadd (pc := 77) hR dX12_isKinHere_77 ?_
        refine z_dup2 (pc := 78) hR dX12_isKinHere_78 (by decide) (by decide) ?_
        refine z_chk (fun hc10 => ?_)
        refine z_iald (pc := 79) hR (n := 81) kma_6 hc10.1 hc10.2 dX12_isKinHere_79 ?_
        refine z_iconst (pc := 80) hR dX12_isKinHere_80 rfl ?_
        refine z_aload_n (pc := 81) hR 2 dX12_isKinHere_81 rfl rfl ?_
        refine z_geti (pc := 82) hR (j := 10) jf_RX12_124 kmo_0 (by decide) rfl rfl dX12_isKinHere_82 ?_
        refine z_ishl (pc := 85) hR dX12_isKinHere_85 ?_
        refine z_ior (pc := 86) hR dX12_isKinHere_86 ?_
        refine z_chk (fun hc11 => ?_)
        refine z_iast (pc := 87) hR (n := 81) kma_6 hc11.1 hc11.2 dX12_isKinHere_87 (fun M12 => ?_)
        refine z_aload_n (pc := 88) hR 2 dX12_isKinHere_88 rfl rfl ?_
        refine z_getr (pc := 89) hR (c0 := 6) (r := 6) jf_RX12_26 kmo_0 (by decide) rfl rfl dX12_isKinHere_89 ?_
        refine z_bipush (pc := 92) hR dX12_isKinHere_92 rfl ?_
        refine z_aload_n (pc := 94) hR 2 dX12_isKinHere_94 rfl rfl ?_
        refine z_geti (pc := 95) hR (j := 10) jf_RX12_124 kmo_0 (by decide) rfl rfl dX12_isKinHere_95 ?_
        refine z_iadd (pc := 98) hR dX12_isKinHere_98 ?_
        refine z_dup2 (pc := 99) hR dX12_isKinHere_99 (by decide) (by decide) ?_
        refine z_chk (fun hc13 => ?_)
        refine z_iald (pc := 100) hR (n := 81) kma_6 hc13.1 hc13.2 dX12_isKinHere_100 ?_
        refine z_iconst (pc := 101) hR dX12_isKinHere_101 rfl ?_
        refine z_iload_n (pc := 102) hR 1 dX12_isKinHere_102 rfl rfl ?_
        refine z_ishl (pc := 103) hR dX12_isKinHere_103 ?_
        refine z_ior (pc := 104) hR dX12_isKinHere_104 ?_
        refine z_chk (fun hc14 => ?_)
        refine z_iast (pc := 105) hR (n := 81) kma_6 hc14.1 hc14.2 dX12_isKinHere_105 (fun M15 => ?_)
        refine z_iconst (pc := 106) hR dX12_isKinHere_106 rfl ?_
        exact z_zreturn (pc := 107) hR rfl rfl (Or.inr rfl) dX12_isKinHere_107 rfl
      · refine z_aload_n (pc := 63) hR 2 dX12_isKinHere_63 rfl rfl ?_
        refine z_iconst (pc := 64) hR dX12_isKinHere_64 rfl ?_
        refine z_iload_n (pc := 65) hR 0 dX12_isKinHere_65 rfl rfl ?_
        refine z_callv1 (pc := 66) hR (As := [(0, 1), (0, v7)]) (st := []) jm_X12_fails jl_RX12_120 kmo_0 (by decide) rfl (by decide) (c_m_fails N 1 v7 M9) rfl (by decide) (by decide) rfl (Nat.le_of_ble_eq_true rfl) dX12_isKinHere_66 (fun r16 M17 => ?_)
        refine z_chk (fun hc18 => ?_)
        exact z_zreturn (pc := 69) hR rfl rfl hc18 dX12_isKinHere_69 rfl
    · refine z_iconst (pc := 53) hR dX12_isKinHere_53 rfl ?_
      exact z_zreturn (pc := 54) hR rfl rfl (Or.inl rfl) dX12_isKinHere_54 rfl
  · refine z_iconst (pc := 20) hR dX12_isKinHere_20 rfl ?_
    exact z_zreturn (pc := 21) hR rfl rfl (Or.inl rfl) dX12_isKinHere_21 rfl
theorem dX12_parishLineHere_0 : decode cX12_parishLineHere 0 = .ok (.aload_n 0, 1) := by decide +kernel
theorem dX12_parishLineHere_1 : decode cX12_parishLineHere 1 = .ok (.ldc2_w 231, 3) := by decide +kernel
theorem dX12_parishLineHere_4 : decode cX12_parishLineHere 4 = .ok (.invokevirtual 110, 3) := by decide +kernel
theorem dX12_parishLineHere_7 : decode cX12_parishLineHere 7 = .ok (.ifCond .eq 9, 3) := by decide +kernel
theorem dX12_parishLineHere_10 : decode cX12_parishLineHere 10 = .ok (.aload_n 0, 1) := by decide +kernel
theorem dX12_parishLineHere_11 : decode cX12_parishLineHere 11 = .ok (.iload_n 1, 1) := by decide +kernel
theorem dX12_parishLineHere_12 : decode cX12_parishLineHere 12 = .ok (.invokevirtual 233, 3) := by decide +kernel
theorem dX12_parishLineHere_15 : decode cX12_parishLineHere 15 = .ok (.ireturn, 1) := by decide +kernel
theorem dX12_parishLineHere_16 : decode cX12_parishLineHere 16 = .ok (.aload_n 0, 1) := by decide +kernel
theorem dX12_parishLineHere_17 : decode cX12_parishLineHere 17 = .ok (.getfield 26, 3) := by decide +kernel
theorem dX12_parishLineHere_20 : decode cX12_parishLineHere 20 = .ok (.iconst 0, 1) := by decide +kernel
theorem dX12_parishLineHere_21 : decode cX12_parishLineHere 21 = .ok (.iaload, 1) := by decide +kernel
theorem dX12_parishLineHere_22 : decode cX12_parishLineHere 22 = .ok (.ifCond .ne 10, 3) := by decide +kernel
theorem dX12_parishLineHere_25 : decode cX12_parishLineHere 25 = .ok (.aload_n 0, 1) := by decide +kernel
theorem dX12_parishLineHere_26 : decode cX12_parishLineHere 26 = .ok (.iconst 4, 1) := by decide +kernel
theorem dX12_parishLineHere_27 : decode cX12_parishLineHere 27 = .ok (.iload_n 1, 1) := by decide +kernel
theorem dX12_parishLineHere_28 : decode cX12_parishLineHere 28 = .ok (.invokevirtual 120, 3) := by decide +kernel
theorem dX12_parishLineHere_31 : decode cX12_parishLineHere 31 = .ok (.ireturn, 1) := by decide +kernel
theorem dX12_parishLineHere_32 : decode cX12_parishLineHere 32 = .ok (.aload_n 0, 1) := by decide +kernel
theorem dX12_parishLineHere_33 : decode cX12_parishLineHere 33 = .ok (.ldc2_w 236, 3) := by decide +kernel
theorem dX12_parishLineHere_36 : decode cX12_parishLineHere 36 = .ok (.invokevirtual 110, 3) := by decide +kernel
theorem dX12_parishLineHere_39 : decode cX12_parishLineHere 39 = .ok (.ifCond .eq 8, 3) := by decide +kernel
theorem dX12_parishLineHere_42 : decode cX12_parishLineHere 42 = .ok (.aload_n 0, 1) := by decide +kernel
theorem dX12_parishLineHere_43 : decode cX12_parishLineHere 43 = .ok (.invokevirtual 238, 3) := by decide +kernel
theorem dX12_parishLineHere_46 : decode cX12_parishLineHere 46 = .ok (.ireturn, 1) := by decide +kernel
theorem dX12_parishLineHere_47 : decode cX12_parishLineHere 47 = .ok (.aload_n 0, 1) := by decide +kernel
theorem dX12_parishLineHere_48 : decode cX12_parishLineHere 48 = .ok (.ldc2_w 241, 3) := by decide +kernel
theorem dX12_parishLineHere_51 : decode cX12_parishLineHere 51 = .ok (.invokevirtual 110, 3) := by decide +kernel
theorem dX12_parishLineHere_54 : decode cX12_parishLineHere 54 = .ok (.ifCond .eq 10, 3) := by decide +kernel
theorem dX12_parishLineHere_57 : decode cX12_parishLineHere 57 = .ok (.aload_n 0, 1) := by decide +kernel
theorem dX12_parishLineHere_58 : decode cX12_parishLineHere 58 = .ok (.invokevirtual 243, 3) := by decide +kernel
theorem dX12_parishLineHere_61 : decode cX12_parishLineHere 61 = .ok (.goto 7, 3) := by decide +kernel
theorem dX12_parishLineHere_64 : decode cX12_parishLineHere 64 = .ok (.aload_n 0, 1) := by decide +kernel
theorem dX12_parishLineHere_65 : decode cX12_parishLineHere 65 = .ok (.invokevirtual 246, 3) := by decide +kernel
theorem dX12_parishLineHere_68 : decode cX12_parishLineHere 68 = .ok (.ireturn, 1) := by decide +kernel
def m_parishLineHere (N : Nat) (a1 : Int) (M : jMem) : Option (Int × jMem) := jb1 (m_isWord N 123563833652072 M) fun r1 M2 => (if r1 = 0 then (if (M2 6 0) = 0 then jb1 (m_fails N 4 a1 M2) fun r16 M17 => jchk (r16 = 0 ∨ r16 = 1) <| some (r16, M17) else jb1 (m_isWord N 2003135596 M2) fun r3 M4 => (if r3 = 0 then jb1 (m_isWord N 1717662317 M4) fun r5 M6 => (if r5 = 0 then jb1 (m_isKinHere N M6) fun r7 M8 => jchk (r7 = 0 ∨ r7 = 1) <| some (r7, M8) else jb1 (m_isFarmHere N M6) fun r10 M11 => jchk (r10 = 0 ∨ r10 = 1) <| some (r10, M11)) else jb1 (m_isWellHere N M4) fun r13 M14 => jchk (r13 = 0 ∨ r13 = 1) <| some (r13, M14))) else jb1 (m_isParishHere N a1 M2) fun r19 M20 => jchk (r19 = 0 ∨ r19 = 1) <| some (r19, M20))
theorem c_m_parishLineHere {l : Launch} {g : jG} (N : Nat) (a1 : Int) (M : jMem)  : ∀ o, m_parishLineHere N a1 M = some o → jCt l g jTM yX12_parishLineHere cX12_parishLineHere 2 (some .boolean) 0 9 [(2, 0), (0, a1)] M o := by
  refine jMet (own := RX12) (em := id) (L := [(0, 2, 0), (1, 0, a1)]) (by decide +kernel) rfl (Nat.le_of_ble_eq_true rfl) rfl (fun K hR => ?_)
  unfold m_parishLineHere
  refine z_aload_n (pc := 0) hR 0 dX12_parishLineHere_0 rfl rfl ?_
  refine z_ldc2 (pc := 1) hR (n := 123563833652072) jc_RX12_231 (by decide) rfl dX12_parishLineHere_1 ?_
  refine z_callv1 (pc := 4) hR (As := [(1, 123563833652072)]) (st := []) jm_X12_isWord jl_RX12_110 kmo_0 (by decide) rfl (by decide) (c_m_isWord N 123563833652072 M) rfl (by decide) (by decide) rfl (Nat.le_of_ble_eq_true rfl) dX12_parishLineHere_4 (fun r1 M2 => ?_)
  refine z_ifeq (pc := 7) (tgt := 16) hR dX12_parishLineHere_7 (by decide) ?_ ?_
  · refine z_aload_n (pc := 16) hR 0 dX12_parishLineHere_16 rfl rfl ?_
    refine z_getr (pc := 17) hR (c0 := 6) (r := 6) jf_RX12_26 kmo_0 (by decide) rfl rfl dX12_parishLineHere_17 ?_
    refine z_iconst (pc := 20) hR dX12_parishLineHere_20 rfl ?_
    refine z_iald (pc := 21) hR (n := 81) kma_6 (by decide) (by decide) dX12_parishLineHere_21 ?_
    refine z_ifne (pc := 22) (tgt := 32) hR dX12_parishLineHere_22 (by decide) ?_ ?_
    · refine z_aload_n (pc := 32) hR 0 dX12_parishLineHere_32 rfl rfl ?_
      refine z_ldc2 (pc := 33) hR (n := 2003135596) jc_RX12_236 (by decide) rfl dX12_parishLineHere_33 ?_
      refine z_callv1 (pc := 36) hR (As := [(1, 2003135596)]) (st := []) jm_X12_isWord jl_RX12_110 kmo_0 (by decide) rfl (by decide) (c_m_isWord N 2003135596 M2) rfl (by decide) (by decide) rfl (Nat.le_of_ble_eq_true rfl) dX12_parishLineHere_36 (fun r3 M4 => ?_)
      refine z_ifeq (pc := 39) (tgt := 47) hR dX12_parishLineHere_39 (by decide) ?_ ?_
      · refine z_aload_n (pc := 47) hR 0 dX12_parishLineHere_47 rfl rfl ?_
        refine z_ldc2 (pc := 48) hR (n := 1717662317) jc_RX12_241 (by decide) rfl dX12_parishLineHere_48 ?_
        refine z_callv1 (pc := 51) hR (As := [(1, 1717662317)]) (st := []) jm_X12_isWord jl_RX12_110 kmo_0 (by decide) rfl (by decide) (c_m_isWord N 1717662317 M4) rfl (by decide) (by decide) rfl (Nat.le_of_ble_eq_true rfl) dX12_parishLineHere_51 (fun r5 M6 => ?_)
        refine z_ifeq (pc := 54) (tgt := 64) hR dX12_parishLineHere_54 (by decide) ?_ ?_
        · refine z_aload_n (pc := 64) hR 0 dX12_parishLineHere_64 rfl rfl ?_
          refine z_callv1 (pc := 65) hR (As := []) (st := []) jm_X12_isKinHere jl_RX12_246 kmo_0 (by decide) rfl (by decide) (c_m_isKinHere N M6) rfl (by decide) (by decide) rfl (Nat.le_of_ble_eq_true rfl) dX12_parishLineHere_65 (fun r7 M8 => ?_)
          refine z_chk (fun hc9 => ?_)
          exact z_zreturn (pc := 68) hR rfl rfl hc9 dX12_parishLineHere_68 rfl
        · refine z_aload_n (pc := 57) hR 0 dX12_parishLineHere_57 rfl rfl ?_
          refine z_callv1 (pc := 58) hR (As := []) (st := []) jm_X12_isFarmHere jl_RX12_243 kmo_0 (by decide) rfl (by decide) (c_m_isFarmHere N M6) rfl (by decide) (by decide) rfl (Nat.le_of_ble_eq_true rfl) dX12_parishLineHere_58 (fun r10 M11 => ?_)
          refine z_goto (pc := 61) (tgt := 68) hR dX12_parishLineHere_61 (by decide) ?_
          refine z_chk (fun hc12 => ?_)
          exact z_zreturn (pc := 68) hR rfl rfl hc12 dX12_parishLineHere_68 rfl
      · refine z_aload_n (pc := 42) hR 0 dX12_parishLineHere_42 rfl rfl ?_
        refine z_callv1 (pc := 43) hR (As := []) (st := []) jm_X12_isWellHere jl_RX12_238 kmo_0 (by decide) rfl (by decide) (c_m_isWellHere N M4) rfl (by decide) (by decide) rfl (Nat.le_of_ble_eq_true rfl) dX12_parishLineHere_43 (fun r13 M14 => ?_)
        refine z_chk (fun hc15 => ?_)
        exact z_zreturn (pc := 46) hR rfl rfl hc15 dX12_parishLineHere_46 rfl
    · refine z_aload_n (pc := 25) hR 0 dX12_parishLineHere_25 rfl rfl ?_
      refine z_iconst (pc := 26) hR dX12_parishLineHere_26 rfl ?_
      refine z_iload_n (pc := 27) hR 1 dX12_parishLineHere_27 rfl rfl ?_
      refine z_callv1 (pc := 28) hR (As := [(0, 4), (0, a1)]) (st := []) jm_X12_fails jl_RX12_120 kmo_0 (by decide) rfl (by decide) (c_m_fails N 4 a1 M2) rfl (by decide) (by decide) rfl (Nat.le_of_ble_eq_true rfl) dX12_parishLineHere_28 (fun r16 M17 => ?_)
      refine z_chk (fun hc18 => ?_)
      exact z_zreturn (pc := 31) hR rfl rfl hc18 dX12_parishLineHere_31 rfl
  · refine z_aload_n (pc := 10) hR 0 dX12_parishLineHere_10 rfl rfl ?_
    refine z_iload_n (pc := 11) hR 1 dX12_parishLineHere_11 rfl rfl ?_
    refine z_callv1 (pc := 12) hR (As := [(0, a1)]) (st := []) jm_X12_isParishHere jl_RX12_233 kmo_0 (by decide) rfl (by decide) (c_m_isParishHere N a1 M2) rfl (by decide) (by decide) rfl (Nat.le_of_ble_eq_true rfl) dX12_parishLineHere_12 (fun r19 M20 => ?_)
    refine z_chk (fun hc21 => ?_)
    exact z_zreturn (pc := 15) hR rfl rfl hc21 dX12_parishLineHere_15 rfl
theorem dX12_isParishWord_0 : decode cX12_isParishWord 0 = .ok (.aload_n 0, 1) := by decide +kernel
theorem dX12_isParishWord_1 : decode cX12_isParishWord 1 = .ok (.ldc2_w 231, 3) := by decide +kernel
theorem dX12_isParishWord_4 : decode cX12_isParishWord 4 = .ok (.invokevirtual 110, 3) := by decide +kernel
theorem dX12_isParishWord_7 : decode cX12_isParishWord 7 = .ok (.ifCond .ne 33, 3) := by decide +kernel
theorem dX12_isParishWord_10 : decode cX12_isParishWord 10 = .ok (.aload_n 0, 1) := by decide +kernel
theorem dX12_isParishWord_11 : decode cX12_isParishWord 11 = .ok (.ldc2_w 236, 3) := by decide +kernel
theorem dX12_isParishWord_14 : decode cX12_isParishWord 14 = .ok (.invokevirtual 110, 3) := by decide +kernel
theorem dX12_isParishWord_17 : decode cX12_isParishWord 17 = .ok (.ifCond .ne 23, 3) := by decide +kernel
theorem dX12_isParishWord_20 : decode cX12_isParishWord 20 = .ok (.aload_n 0, 1) := by decide +kernel
theorem dX12_isParishWord_21 : decode cX12_isParishWord 21 = .ok (.ldc2_w 241, 3) := by decide +kernel
theorem dX12_isParishWord_24 : decode cX12_isParishWord 24 = .ok (.invokevirtual 110, 3) := by decide +kernel
theorem dX12_isParishWord_27 : decode cX12_isParishWord 27 = .ok (.ifCond .ne 13, 3) := by decide +kernel
theorem dX12_isParishWord_30 : decode cX12_isParishWord 30 = .ok (.aload_n 0, 1) := by decide +kernel
theorem dX12_isParishWord_31 : decode cX12_isParishWord 31 = .ok (.ldc2_w 249, 3) := by decide +kernel
theorem dX12_isParishWord_34 : decode cX12_isParishWord 34 = .ok (.invokevirtual 110, 3) := by decide +kernel
theorem dX12_isParishWord_37 : decode cX12_isParishWord 37 = .ok (.ifCond .eq 7, 3) := by decide +kernel
theorem dX12_isParishWord_40 : decode cX12_isParishWord 40 = .ok (.iconst 1, 1) := by decide +kernel
theorem dX12_isParishWord_41 : decode cX12_isParishWord 41 = .ok (.goto 4, 3) := by decide +kernel
theorem dX12_isParishWord_44 : decode cX12_isParishWord 44 = .ok (.iconst 0, 1) := by decide +kernel
theorem dX12_isParishWord_45 : decode cX12_isParishWord 45 = .ok (.ireturn, 1) := by decide +kernel
def m_isParishWord (N : Nat) (M : jMem) : Option (Int × jMem) := jb1 (m_isWord N 123563833652072 M) fun r1 M2 => (if r1 = 0 then jb1 (m_isWord N 2003135596 M2) fun r3 M4 => (if r3 = 0 then jb1 (m_isWord N 1717662317 M4) fun r5 M6 => (if r5 = 0 then jb1 (m_isWord N 7039342 M6) fun r7 M8 => (if r7 = 0 then some (0, M8) else some (1, M8)) else some (1, M6)) else some (1, M4)) else some (1, M2))
theorem c_m_isParishWord {l : Launch} {g : jG} (N : Nat) (M : jMem)  : ∀ o, m_isParishWord N  M = some o → jCt l g jTM yX12_isParishWord cX12_isParishWord 1 (some .boolean) 0 5 [(2, 0)] M o := by
  refine jMet (own := RX12) (em := id) (L := [(0, 2, 0)]) (by decide +kernel) rfl (Nat.le_of_ble_eq_true rfl) rfl (fun K hR => ?_)
  unfold m_isParishWord
  refine z_aload_n (pc := 0) hR 0 dX12_isParishWord_0 rfl rfl ?_
  refine z_ldc2 (pc := 1) hR (n := 123563833652072) jc_RX12_231 (by decide) rfl dX12_isParishWord_1 ?_
  refine z_callv1 (pc := 4) hR (As := [(1, 123563833652072)]) (st := []) jm_X12_isWord jl_RX12_110 kmo_0 (by decide) rfl (by decide) (c_m_isWord N 123563833652072 M) rfl (by decide) (by decide) rfl (Nat.le_of_ble_eq_true rfl) dX12_isParishWord_4 (fun r1 M2 => ?_)
  refine z_ifne (pc := 7) (tgt := 40) hR dX12_isParishWord_7 (by decide) ?_ ?_
  · refine z_iconst (pc := 40) hR dX12_isParishWord_40 rfl ?_
    refine z_goto (pc := 41) (tgt := 45) hR dX12_isParishWord_41 (by decide) ?_
    exact z_zreturn (pc := 45) hR rfl rfl (Or.inr rfl) dX12_isParishWord_45 rfl
  · refine z_aload_n (pc := 10) hR 0 dX12_isParishWord_10 rfl rfl ?_
    refine z_ldc2 (pc := 11) hR (n := 2003135596) jc_RX12_236 (by decide) rfl dX12_isParishWord_11 ?_
    refine z_callv1 (pc := 14) hR (As := [(1, 2003135596)]) (st := []) jm_X12_isWord jl_RX12_110 kmo_0 (by decide) rfl (by decide) (c_m_isWord N 2003135596 M2) rfl (by decide) (by decide) rfl (Nat.le_of_ble_eq_true rfl) dX12_isParishWord_14 (fun r3 M4 => ?_)
    refine z_ifne (pc := 17) (tgt := 40) hR dX12_isParishWord_17 (by decide) ?_ ?_
    · refine z_iconst (pc := 40) hR dX12_isParishWord_40 rfl ?_
      refine z_goto (pc := 41) (tgt := 45) hR dX12_isParishWord_41 (by decide) ?_
      exact z_zreturn (pc := 45) hR rfl rfl (Or.inr rfl) dX12_isParishWord_45 rfl
    · refine z_aload_n (pc := 20) hR 0 dX12_isParishWord_20 rfl rfl ?_
      refine z_ldc2 (pc := 21) hR (n := 1717662317) jc_RX12_241 (by decide) rfl dX12_isParishWord_21 ?_
      refine z_callv1 (pc := 24) hR (As := [(1, 1717662317)]) (st := []) jm_X12_isWord jl_RX12_110 kmo_0 (by decide) rfl (by decide) (c_m_isWord N 1717662317 M4) rfl (by decide) (by decide) rfl (Nat.le_of_ble_eq_true rfl) dX12_isParishWord_24 (fun r5 M6 => ?_)
      refine z_ifne (pc := 27) (tgt := 40) hR dX12_isParishWord_27 (by decide) ?_ ?_
      · refine z_iconst (pc := 40) hR dX12_isParishWord_40 rfl ?_
        refine z_goto (pc := 41) (tgt := 45) hR dX12_isParishWord_41 (by decide) ?_
        exact z_zreturn (pc := 45) hR rfl rfl (Or.inr rfl) dX12_isParishWord_45 rfl
      · refine z_aload_n (pc := 30) hR 0 dX12_isParishWord_30 rfl rfl ?_
        refine z_ldc2 (pc := 31) hR (n := 7039342) jc_RX12_249 (by decide) rfl dX12_isParishWord_31 ?_
        refine z_callv1 (pc := 34) hR (As := [(1, 7039342)]) (st := []) jm_X12_isWord jl_RX12_110 kmo_0 (by decide) rfl (by decide) (c_m_isWord N 7039342 M6) rfl (by decide) (by decide) rfl (Nat.le_of_ble_eq_true rfl) dX12_isParishWord_34 (fun r7 M8 => ?_)
        refine z_ifeq (pc := 37) (tgt := 44) hR dX12_isParishWord_37 (by decide) ?_ ?_
        · refine z_iconst (pc := 44) hR dX12_isParishWord_44 rfl ?_
          exact z_zreturn (pc := 45) hR rfl rfl (Or.inl rfl) dX12_isParishWord_45 rfl
        · refine z_iconst (pc := 40) hR dX12_isParishWord_40 rfl ?_
          refine z_goto (pc := 41) (tgt := 45) hR dX12_isParishWord_41 (by decide) ?_
          exact z_zreturn (pc := 45) hR rfl rfl (Or.inr rfl) dX12_isParishWord_45 rfl
theorem dX12_clauseHere_0 : decode cX12_clauseHere 0 = .ok (.aload_n 0, 1) := by decide +kernel
theorem dX12_clauseHere_1 : decode cX12_clauseHere 1 = .ok (.invokevirtual 102, 3) := by decide +kernel
theorem dX12_clauseHere_4 : decode cX12_clauseHere 4 = .ok (.pop, 1) := by decide +kernel
theorem dX12_clauseHere_5 : decode cX12_clauseHere 5 = .ok (.aload_n 0, 1) := by decide +kernel
theorem dX12_clauseHere_6 : decode cX12_clauseHere 6 = .ok (.getfield 99, 3) := by decide +kernel
theorem dX12_clauseHere_9 : decode cX12_clauseHere 9 = .ok (.istore_n 1, 1) := by decide +kernel
theorem dX12_clauseHere_10 : decode cX12_clauseHere 10 = .ok (.aload_n 0, 1) := by decide +kernel
theorem dX12_clauseHere_11 : decode cX12_clauseHere 11 = .ok (.getfield 155, 3) := by decide +kernel
theorem dX12_clauseHere_14 : decode cX12_clauseHere 14 = .ok (.bipush 6, 2) := by decide +kernel
theorem dX12_clauseHere_16 : decode cX12_clauseHere 16 = .ok (.if_icmp .ne 7, 3) := by decide +kernel
theorem dX12_clauseHere_19 : decode cX12_clauseHere 19 = .ok (.iconst 1, 1) := by decide +kernel
theorem dX12_clauseHere_20 : decode cX12_clauseHere 20 = .ok (.goto 4, 3) := by decide +kernel
theorem dX12_clauseHere_23 : decode cX12_clauseHere 23 = .ok (.iconst 0, 1) := by decide +kernel
theorem dX12_clauseHere_24 : decode cX12_clauseHere 24 = .ok (.istore_n 2, 1) := by decide +kernel
theorem dX12_clauseHere_25 : decode cX12_clauseHere 25 = .ok (.iload_n 2, 1) := by decide +kernel
theorem dX12_clauseHere_26 : decode cX12_clauseHere 26 = .ok (.ifCond .eq 13, 3) := by decide +kernel
theorem dX12_clauseHere_29 : decode cX12_clauseHere 29 = .ok (.aload_n 0, 1) := by decide +kernel
theorem dX12_clauseHere_30 : decode cX12_clauseHere 30 = .ok (.invokevirtual 251, 3) := by decide +kernel
theorem dX12_clauseHere_33 : decode cX12_clauseHere 33 = .ok (.ifCond .ne 23, 3) := by decide +kernel
theorem dX12_clauseHere_36 : decode cX12_clauseHere 36 = .ok (.goto 13, 3) := by decide +kernel
theorem dX12_clauseHere_39 : decode cX12_clauseHere 39 = .ok (.aload_n 0, 1) := by decide +kernel
theorem dX12_clauseHere_40 : decode cX12_clauseHere 40 = .ok (.ldc2_w 254, 3) := by decide +kernel
theorem dX12_clauseHere_43 : decode cX12_clauseHere 43 = .ok (.invokevirtual 110, 3) := by decide +kernel
theorem dX12_clauseHere_46 : decode cX12_clauseHere 46 = .ok (.ifCond .ne 10, 3) := by decide +kernel
theorem dX12_clauseHere_49 : decode cX12_clauseHere 49 = .ok (.aload_n 0, 1) := by decide +kernel
theorem dX12_clauseHere_50 : decode cX12_clauseHere 50 = .ok (.iconst 0, 1) := by decide +kernel
theorem dX12_clauseHere_51 : decode cX12_clauseHere 51 = .ok (.iload_n 1, 1) := by decide +kernel
theorem dX12_clauseHere_52 : decode cX12_clauseHere 52 = .ok (.invokevirtual 120, 3) := by decide +kernel
theorem dX12_clauseHere_55 : decode cX12_clauseHere 55 = .ok (.ireturn, 1) := by decide +kernel
theorem dX12_clauseHere_56 : decode cX12_clauseHere 56 = .ok (.aload_n 0, 1) := by decide +kernel
theorem dX12_clauseHere_57 : decode cX12_clauseHere 57 = .ok (.getfield 256, 3) := by decide +kernel
theorem dX12_clauseHere_60 : decode cX12_clauseHere 60 = .ok (.iload_n 2, 1) := by decide +kernel
theorem dX12_clauseHere_61 : decode cX12_clauseHere 61 = .ok (.ifCond .eq 8, 3) := by decide +kernel
theorem dX12_clauseHere_64 : decode cX12_clauseHere 64 = .ok (.bipush 40, 2) := by decide +kernel
theorem dX12_clauseHere_66 : decode cX12_clauseHere 66 = .ok (.goto 5, 3) := by decide +kernel
theorem dX12_clauseHere_69 : decode cX12_clauseHere 69 = .ok (.bipush 12, 2) := by decide +kernel
theorem dX12_clauseHere_71 : decode cX12_clauseHere 71 = .ok (.if_icmp .ne 10, 3) := by decide +kernel
theorem dX12_clauseHere_74 : decode cX12_clauseHere 74 = .ok (.aload_n 0, 1) := by decide +kernel
theorem dX12_clauseHere_75 : decode cX12_clauseHere 75 = .ok (.iconst 4, 1) := by decide +kernel
theorem dX12_clauseHere_76 : decode cX12_clauseHere 76 = .ok (.iload_n 1, 1) := by decide +kernel
theorem dX12_clauseHere_77 : decode cX12_clauseHere 77 = .ok (.invokevirtual 120, 3) := by decide +kernel
theorem dX12_clauseHere_80 : decode cX12_clauseHere 80 = .ok (.ireturn, 1) := by decide +kernel
theorem dX12_clauseHere_81 : decode cX12_clauseHere 81 = .ok (.aload_n 0, 1) := by decide +kernel
theorem dX12_clauseHere_82 : decode cX12_clauseHere 82 = .ok (.dup, 1) := by decide +kernel
theorem dX12_clauseHere_83 : decode cX12_clauseHere 83 = .ok (.getfield 256, 3) := by decide +kernel
theorem dX12_clauseHere_86 : decode cX12_clauseHere 86 = .ok (.iconst 1, 1) := by decide +kernel
theorem dX12_clauseHere_87 : decode cX12_clauseHere 87 = .ok (.iadd, 1) := by decide +kernel
theorem dX12_clauseHere_88 : decode cX12_clauseHere 88 = .ok (.putfield 256, 3) := by decide +kernel
theorem dX12_clauseHere_91 : decode cX12_clauseHere 91 = .ok (.iload_n 2, 1) := by decide +kernel
theorem dX12_clauseHere_92 : decode cX12_clauseHere 92 = .ok (.ifCond .eq 11, 3) := by decide +kernel
theorem dX12_clauseHere_95 : decode cX12_clauseHere 95 = .ok (.aload_n 0, 1) := by decide +kernel
theorem dX12_clauseHere_96 : decode cX12_clauseHere 96 = .ok (.iload_n 1, 1) := by decide +kernel
theorem dX12_clauseHere_97 : decode cX12_clauseHere 97 = .ok (.invokevirtual 259, 3) := by decide +kernel
theorem dX12_clauseHere_100 : decode cX12_clauseHere 100 = .ok (.goto 7, 3) := by decide +kernel
theorem dX12_clauseHere_103 : decode cX12_clauseHere 103 = .ok (.aload_n 0, 1) := by decide +kernel
theorem dX12_clauseHere_104 : decode cX12_clauseHere 104 = .ok (.invokevirtual 262, 3) := by decide +kernel
theorem dX12_clauseHere_107 : decode cX12_clauseHere 107 = .ok (.ireturn, 1) := by decide +kernel
def m_clauseHere (N : Nat) (M : jMem) : Option (Int × jMem) := jb1 (m_see N M) fun r1 M2 => jlt ((M2 0 8)) fun v3 => jlt (fun (u4 : Int) => jlt (fun (M5 : jMem) => jlt (fun (u6 : Int) => (if (M5 0 14) = u6 then jb1 (m_fails N 4 v3 M5) fun r14 M15 => jchk (r14 = 0 ∨ r14 = 1) <| some (r14, M15) else jlt (up M5 0 14 ((w32 (((M5 0 14)) + 1)))) fun M7 => (if u4 = 0 then jb1 (m_isWedHere N M7) fun r8 M9 => jchk (r8 = 0 ∨ r8 = 1) <| some (r8, M9) else jb1 (m_parishLineHere N v3 M7) fun r11 M12 => jchk (r11 = 0 ∨ r11 = 1) <| some (r11, M12)))) fun j71 => (if u4 = 0 then j71 12 else j71 40)) fun j56 => jlt (fun (M17 : jMem) => jb1 (m_fails N 0 v3 M17) fun r18 M19 => jchk (r18 = 0 ∨ r18 = 1) <| some (r18, M19)) fun j49 => (if u4 = 0 then jb1 (m_isWord N 7824740 M2) fun r21 M22 => (if r21 = 0 then j49 M22 else j56 M22) else jb1 (m_isParishWord N M2) fun r23 M24 => (if r23 = 0 then j49 M24 else j56 M24))) fun j24 => (if (M2 0 11) = 6 then j24 1 else j24 0)
theorem c_m_clauseHere {l : Launch} {g : jG} (N : Nat) (M : jMem)  : ∀ o, m_clauseHere N  M = some o → jCt l g jTM yX12_clauseHere cX12_clauseHere 3 (some .boolean) 0 21 [(2, 0)] M o := by
  refine jMet (own := RX12) (em := id) (L := [(0, 2, 0)]) (by decide +kernel) rfl (Nat.le_of_ble_eq_true rfl) rfl (fun K hR => ?_)
  unfold m_clauseHere
  refine z_aload_n (pc := 0) hR 0 dX12_clauseHere_0 rfl rfl ?_
  refine z_callv1 (pc := 1) hR (As := []) (st := []) jm_X12_see jl_RX12_102 kmo_0 (by decide) rfl (by decide) (c_m_see N M) rfl (by decide) (by decide) rfl (Nat.le_of_ble_eq_true rfl) dX12_clauseHere_1 (fun r1 M2 => ?_)
  refine z_pop (pc := 4) hR dX12_clauseHere_4 (by decide) ?_
  refine z_aload_n (pc := 5) hR 0 dX12_clauseHere_5 rfl rfl ?_
  refine z_geti (pc := 6) hR (j := 8) jf_RX12_99 kmo_0 (by decide) rfl rfl dX12_clauseHere_6 ?_
  refine z_let1 (fun v3 => ?_)
  refine z_istore_n (pc := 9) hR (lv' := [(1, 0, v3), (0, 2, 0)]) dX12_clauseHere_9 rfl (by decide) rfl ?_
  refine z_aload_n (pc := 10) hR 1 dX12_clauseHere_10 rfl rfl ?_
  refine z_geti (pc := 11) hR (j := 11) jf_RX12_155 kmo_0 (by decide) rfl rfl dX12_clauseHere_11 ?_
  refine z_bipush (pc := 14) hR dX12_clauseHere_14 rfl ?_
  refine z_join (P := fun j => ∀ (u4 : Int), jZ K id 24 [(0, 2, 0), (1, 0, v3)] [(0, u4)] M2 (j u4)) (fun u4 => ?_) (fun j24 hj24 => ?_)
  · refine z_istore_n (pc := 24) hR (lv' := [(2, 0, u4), (0, 2, 0), (1, 0, v3)]) dX12_clauseHere_24 rfl (by decide) rfl ?_
    refine z_iload_n (pc := 25) hR 0 dX12_clauseHere_25 rfl rfl ?_
    refine z_join (P := fun j => ∀ (M5 : jMem), jZ K id 56 [(0, 2, 0), (1, 0, v3), (2, 0, u4)] [] M5 (j M5)) (fun M5 => ?_) (fun j56 hj56 => ?_)
    · refine z_aload_n (pc := 56) hR 0 dX12_clauseHere_56 rfl rfl ?_
      refine z_geti (pc := 57) hR (j := 14) jf_RX12_256 kmo_0 (by decide) rfl rfl dX12_clauseHere_57 ?_
      refine z_iload_n (pc := 60) hR 2 dX12_clauseHere_60 rfl rfl ?_
      refine z_join (P := fun j => ∀ (u6 : Int), jZ K id 71 [(0, 2, 0), (1, 0, v3), (2, 0, u4)] [(0, u6), (0, (M5 0 14))] M5 (j u6)) (fun u6 => ?_) (fun j71 hj71 => ?_)
      · refine z_icmpne (pc := 71) (tgt := 81) hR dX12_clauseHere_71 (by decide) ?_ ?_
        · refine z_aload_n (pc := 81) hR 0 dX12_clauseHere_81 rfl rfl ?_
          refine z_dup (pc := 82) hR dX12_clauseHere_82 (by decide) ?_
          refine z_geti (pc := 83) hR (j := 14) jf_RX12_256 kmo_0 (by decide) rfl rfl dX12_clauseHere_83 ?_
          refine z_iconst (pc := 86) hR dX12_clauseHere_86 rfl ?_
          refine z_iadd (pc := 87) hR dX12_clauseHere_87 ?_
          refine z_puti (pc := 88) hR (j := 14) jp_RX12_256 kmo_0 (by decide) rfl rfl rfl rfl dX12_clauseHere_88 (fun M7 => ?_)
          refine z_iload_n (pc := 91) hR 2 dX12_clauseHere_91 rfl rfl ?_
          refine z_ifeq (pc := 92) (tgt := 103) hR dX12_clauseHere_92 (by decide) ?_ ?_
          · refine z_aload_n (pc := 103) hR 0 dX12_clauseHere_103 rfl rfl ?_
            refine z_callv1 (pc := 104) hR (As := []) (st := []) jm_X12_isWedHere jl_RX12_262 kmo_0 (by decide) rfl (by decide) (c_m_isWedHere N M7) rfl (by decide) (by decide) rfl (Nat.le_of_ble_eq_true rfl) dX12_clauseHere_104 (fun r8 M9 => ?_)
            refine z_chk (fun hc10 => ?_)
            exact z_zreturn (pc := 107) hR rfl rfl hc10 dX12_clauseHere_107 rfl
          · refine z_aload_n (pc := 95) hR 0 dX12_clauseHere_95 rfl rfl ?_
            refine z_iload_n (pc := 96) hR 1 dX12_clauseHere_96 rfl rfl ?_
            refine z_callv1 (pc := 97) hR (As := [(0, v3)]) (st := []) jm_X12_parishLineHere jl_RX12_259 kmo_0 (by decide) rfl (by decide) (c_m_parishLineHere N v3 M7) rfl (by decide) (by decide) rfl (Nat.le_of_ble_eq_true rfl) dX12_clauseHere_97 (fun r11 M12 => ?_)
            refine z_goto (pc := 100) (tgt := 107) hR dX12_clauseHere_100 (by decide) ?_
            refine z_chk (fun hc13 => ?_)
            exact z_zreturn (pc := 107) hR rfl rfl hc13 dX12_clauseHere_107 rfl
        · refine z_aload_n (pc := 74) hR 0 dX12_clauseHere_74 rfl rfl ?_
          refine z_iconst (pc := 75) hR dX12_clauseHere_75 rfl ?_
          refine z_iload_n (pc := 76) hR 1 dX12_clauseHere_76 rfl rfl ?_
          refine z_callv1 (pc := 77) hR (As := [(0, 4), (0, v3)]) (st := []) jm_X12_fails jl_RX12_120 kmo_0 (by decide) rfl (by decide) (c_m_fails N 4 v3 M5) rfl (by decide) (by decide) rfl (Nat.le_of_ble_eq_true rfl) dX12_clauseHere_77 (fun r14 M15 => ?_)
          refine z_chk (fun hc16 => ?_)
          exact z_zreturn (pc := 80) hR rfl rfl hc16 dX12_clauseHere_80 rfl
      refine z_ifeq (pc := 61) (tgt := 69) hR dX12_clauseHere_61 (by decide) ?_ ?_
      · refine z_bipush (pc := 69) hR dX12_clauseHere_69 rfl ?_
        exact hj71 12
      · refine z_bipush (pc := 64) hR dX12_clauseHere_64 rfl ?_
        refine z_goto (pc := 66) (tgt := 71) hR dX12_clauseHere_66 (by decide) ?_
        exact hj71 40
    refine z_join (P := fun j => ∀ (M17 : jMem), jZ K id 49 [(0, 2, 0), (1, 0, v3)] [] M17 (j M17)) (fun M17 => ?_) (fun j49 hj49 => ?_)
    · refine z_aload_n (pc := 49) hR 0 dX12_clauseHere_49 rfl rfl ?_
      refine z_iconst (pc := 50) hR dX12_clauseHere_50 rfl ?_
      refine z_iload_n (pc := 51) hR 1 dX12_clauseHere_51 rfl rfl ?_
      refine z_callv1 (pc := 52) hR (As := [(0, 0), (0, v3)]) (st := []) jm_X12_fails jl_RX12_120 kmo_0 (by decide) rfl (by decide) (c_m_fails N 0 v3 M17) rfl (by decide) (by decide) rfl (Nat.le_of_ble_eq_true rfl) dX12_clauseHere_52 (fun r18 M19 => ?_)
      refine z_chk (fun hc20 => ?_)
      exact z_zreturn (pc := 55) hR rfl rfl hc20 dX12_clauseHere_55 rfl
    refine z_ifeq (pc := 26) (tgt := 39) hR dX12_clauseHere_26 (by decide) ?_ ?_
    · refine z_aload_n (pc := 39) hR 1 dX12_clauseHere_39 rfl rfl ?_
      refine z_ldc2 (pc := 40) hR (n := 7824740) jc_RX12_254 (by decide) rfl dX12_clauseHere_40 ?_
      refine z_callv1 (pc := 43) hR (As := [(1, 7824740)]) (st := []) jm_X12_isWord jl_RX12_110 kmo_0 (by decide) rfl (by decide) (c_m_isWord N 7824740 M2) rfl (by decide) (by decide) rfl (Nat.le_of_ble_eq_true rfl) dX12_clauseHere_43 (fun r21 M22 => ?_)
      refine z_ifne (pc := 46) (tgt := 56) hR dX12_clauseHere_46 (by decide) ?_ ?_
      · refine z_pick (pc := 56) (lv' := [(0, 2, 0), (1, 0, v3), (2, 0, u4)]) hR [1, 2, 0] rfl ?_
        exact hj56 M22
      · refine z_pick (pc := 49) (lv' := [(0, 2, 0), (1, 0, v3)]) hR [1, 2] rfl ?_
        exact hj49 M22
    · refine z_aload_n (pc := 29) hR 1 dX12_clauseHere_29 rfl rfl ?_
      refine z_callv1 (pc := 30) hR (As := []) (st := []) jm_X12_isParishWord jl_RX12_251 kmo_0 (by decide) rfl (by decide) (c_m_isParishWord N M2) rfl (by decide) (by decide) rfl (Nat.le_of_ble_eq_true rfl) dX12_clauseHere_30 (fun r23 M24 => ?_)
      refine z_ifne (pc := 33) (tgt := 56) hR dX12_clauseHere_33 (by decide) ?_ ?_
      · refine z_pick (pc := 56) (lv' := [(0, 2, 0), (1, 0, v3), (2, 0, u4)]) hR [1, 2, 0] rfl ?_
        exact hj56 M24
      · refine z_goto (pc := 36) (tgt := 49) hR dX12_clauseHere_36 (by decide) ?_
        refine z_pick (pc := 49) (lv' := [(0, 2, 0), (1, 0, v3)]) hR [1, 2] rfl ?_
        exact hj49 M24
  refine z_icmpne (pc := 16) (tgt := 23) hR dX12_clauseHere_16 (by decide) ?_ ?_
  · refine z_iconst (pc := 23) hR dX12_clauseHere_23 rfl ?_
    refine z_pick (pc := 24) (lv' := [(0, 2, 0), (1, 0, v3)]) hR [1, 0] rfl ?_
    exact hj24 0
  · refine z_iconst (pc := 19) hR dX12_clauseHere_19 rfl ?_
    refine z_goto (pc := 20) (tgt := 24) hR dX12_clauseHere_20 (by decide) ?_
    refine z_pick (pc := 24) (lv' := [(0, 2, 0), (1, 0, v3)]) hR [1, 0] rfl ?_
    exact hj24 1
theorem dX12_readsAll_0 : decode cX12_readsAll 0 = .ok (.aload_n 0, 1) := by decide +kernel
theorem dX12_readsAll_1 : decode cX12_readsAll 1 = .ok (.getfield 17, 3) := by decide +kernel
theorem dX12_readsAll_4 : decode cX12_readsAll 4 = .ok (.aload_n 0, 1) := by decide +kernel
theorem dX12_readsAll_5 : decode cX12_readsAll 5 = .ok (.getfield 155, 3) := by decide +kernel
theorem dX12_readsAll_8 : decode cX12_readsAll 8 = .ok (.iconst 0, 1) := by decide +kernel
theorem dX12_readsAll_9 : decode cX12_readsAll 9 = .ok (.iastore, 1) := by decide +kernel
theorem dX12_readsAll_10 : decode cX12_readsAll 10 = .ok (.aload_n 0, 1) := by decide +kernel
theorem dX12_readsAll_11 : decode cX12_readsAll 11 = .ok (.iconst 0, 1) := by decide +kernel
theorem dX12_readsAll_12 : decode cX12_readsAll 12 = .ok (.putfield 256, 3) := by decide +kernel
theorem dX12_readsAll_15 : decode cX12_readsAll 15 = .ok (.aload_n 0, 1) := by decide +kernel
theorem dX12_readsAll_16 : decode cX12_readsAll 16 = .ok (.iconst 0, 1) := by decide +kernel
theorem dX12_readsAll_17 : decode cX12_readsAll 17 = .ok (.putfield 99, 3) := by decide +kernel
theorem dX12_readsAll_20 : decode cX12_readsAll 20 = .ok (.aload_n 0, 1) := by decide +kernel
theorem dX12_readsAll_21 : decode cX12_readsAll 21 = .ok (.iconst 0, 1) := by decide +kernel
theorem dX12_readsAll_22 : decode cX12_readsAll 22 = .ok (.putfield 96, 3) := by decide +kernel
theorem dX12_readsAll_25 : decode cX12_readsAll 25 = .ok (.aload_n 0, 1) := by decide +kernel
theorem dX12_readsAll_26 : decode cX12_readsAll 26 = .ok (.iconst 0, 1) := by decide +kernel
theorem dX12_readsAll_27 : decode cX12_readsAll 27 = .ok (.putfield 158, 3) := by decide +kernel
theorem dX12_readsAll_30 : decode cX12_readsAll 30 = .ok (.aload_n 0, 1) := by decide +kernel
theorem dX12_readsAll_31 : decode cX12_readsAll 31 = .ok (.invokevirtual 265, 3) := by decide +kernel
theorem dX12_readsAll_34 : decode cX12_readsAll 34 = .ok (.istore_n 1, 1) := by decide +kernel
theorem dX12_readsAll_35 : decode cX12_readsAll 35 = .ok (.iload_n 1, 1) := by decide +kernel
theorem dX12_readsAll_36 : decode cX12_readsAll 36 = .ok (.ifCond .eq 30, 3) := by decide +kernel
theorem dX12_readsAll_39 : decode cX12_readsAll 39 = .ok (.aload_n 0, 1) := by decide +kernel
theorem dX12_readsAll_40 : decode cX12_readsAll 40 = .ok (.invokevirtual 102, 3) := by decide +kernel
theorem dX12_readsAll_43 : decode cX12_readsAll 43 = .ok (.bipush 59, 2) := by decide +kernel
theorem dX12_readsAll_45 : decode cX12_readsAll 45 = .ok (.if_icmp .ne 21, 3) := by decide +kernel
theorem dX12_readsAll_48 : decode cX12_readsAll 48 = .ok (.aload_n 0, 1) := by decide +kernel
theorem dX12_readsAll_49 : decode cX12_readsAll 49 = .ok (.dup, 1) := by decide +kernel
theorem dX12_readsAll_50 : decode cX12_readsAll 50 = .ok (.getfield 99, 3) := by decide +kernel
theorem dX12_readsAll_53 : decode cX12_readsAll 53 = .ok (.iconst 1, 1) := by decide +kernel
theorem dX12_readsAll_54 : decode cX12_readsAll 54 = .ok (.iadd, 1) := by decide +kernel
theorem dX12_readsAll_55 : decode cX12_readsAll 55 = .ok (.putfield 99, 3) := by decide +kernel
theorem dX12_readsAll_58 : decode cX12_readsAll 58 = .ok (.aload_n 0, 1) := by decide +kernel
theorem dX12_readsAll_59 : decode cX12_readsAll 59 = .ok (.invokevirtual 265, 3) := by decide +kernel
theorem dX12_readsAll_62 : decode cX12_readsAll 62 = .ok (.istore_n 1, 1) := by decide +kernel
theorem dX12_readsAll_63 : decode cX12_readsAll 63 = .ok (.goto (-28), 3) := by decide +kernel
theorem dX12_readsAll_66 : decode cX12_readsAll 66 = .ok (.iload_n 1, 1) := by decide +kernel
theorem dX12_readsAll_67 : decode cX12_readsAll 67 = .ok (.ifCond .eq 21, 3) := by decide +kernel
theorem dX12_readsAll_70 : decode cX12_readsAll 70 = .ok (.aload_n 0, 1) := by decide +kernel
theorem dX12_readsAll_71 : decode cX12_readsAll 71 = .ok (.invokevirtual 102, 3) := by decide +kernel
theorem dX12_readsAll_74 : decode cX12_readsAll 74 = .ok (.iconst (-1), 1) := by decide +kernel
theorem dX12_readsAll_75 : decode cX12_readsAll 75 = .ok (.if_icmp .eq 13, 3) := by decide +kernel
theorem dX12_readsAll_78 : decode cX12_readsAll 78 = .ok (.aload_n 0, 1) := by decide +kernel
theorem dX12_readsAll_79 : decode cX12_readsAll 79 = .ok (.iconst 0, 1) := by decide +kernel
theorem dX12_readsAll_80 : decode cX12_readsAll 80 = .ok (.aload_n 0, 1) := by decide +kernel
theorem dX12_readsAll_81 : decode cX12_readsAll 81 = .ok (.getfield 99, 3) := by decide +kernel
theorem dX12_readsAll_84 : decode cX12_readsAll 84 = .ok (.invokevirtual 120, 3) := by decide +kernel
theorem dX12_readsAll_87 : decode cX12_readsAll 87 = .ok (.pop, 1) := by decide +kernel
theorem dX12_readsAll_88 : decode cX12_readsAll 88 = .ok (.aload_n 0, 1) := by decide +kernel
theorem dX12_readsAll_89 : decode cX12_readsAll 89 = .ok (.iconst 0, 1) := by decide +kernel
theorem dX12_readsAll_90 : decode cX12_readsAll 90 = .ok (.putfield 89, 3) := by decide +kernel
theorem dX12_readsAll_93 : decode cX12_readsAll 93 = .ok (.aload_n 0, 1) := by decide +kernel
theorem dX12_readsAll_94 : decode cX12_readsAll 94 = .ok (.getfield 96, 3) := by decide +kernel
theorem dX12_readsAll_97 : decode cX12_readsAll 97 = .ok (.ifCond .ne 7, 3) := by decide +kernel
theorem dX12_readsAll_100 : decode cX12_readsAll 100 = .ok (.iconst 1, 1) := by decide +kernel
theorem dX12_readsAll_101 : decode cX12_readsAll 101 = .ok (.goto 4, 3) := by decide +kernel
theorem dX12_readsAll_104 : decode cX12_readsAll 104 = .ok (.iconst 0, 1) := by decide +kernel
theorem dX12_readsAll_105 : decode cX12_readsAll 105 = .ok (.ireturn, 1) := by decide +kernel
def m_readsAll_L35 (N : Nat)  (h35 : (Int × jMem) → Option (Int × jMem)) : Int × jMem → Option (Int × jMem)
  | (x9, M10) => jlt (fun (M11 : jMem) => jlt (fun (M12 : jMem) => jlt (up M12 0 1 0) fun M13 => (if (M13 0 9) = 0 then some (1, M13) else some (0, M13))) fun j88 => (if x9 = 0 then j88 M11 else jb1 (m_see N M11) fun r14 M15 => (if r14 = (-1) then j88 M15 else jb1 (m_fails N 0 ((M15 0 8)) M15) fun r16 M17 => j88 M17))) fun j66 => (if x9 = 0 then j66 M10 else jb1 (m_see N M10) fun r18 M19 => (if r18 = 59 then jlt (up M19 0 8 ((w32 (((M19 0 8)) + 1)))) fun M20 => jb1 (m_clauseHere N M20) fun r21 M22 => h35 (r21, M22) else j66 M19))
def m_readsAll (N : Nat) (M : jMem) : Option (Int × jMem) := jchk (0 ≤ (M 0 11) ∧ (M 0 11) < 7) <| jlt (up M 3 ((M 0 11)) 0) fun M2 => jlt (up M2 0 14 0) fun M3 => jlt (up M3 0 8 0) fun M4 => jlt (up M4 0 9 0) fun M5 => jlt (up M5 0 12 0) fun M6 => jb1 (m_clauseHere N M6) fun r7 M8 => jfix N (m_readsAll_L35 N) (r7, M8)
theorem c_m_readsAll {l : Launch} {g : jG} (N : Nat) (M : jMem)  : ∀ o, m_readsAll N  M = some o → jCt l g jTM yX12_readsAll cX12_readsAll 2 (some .boolean) 0 23 [(2, 0)] M o := by
  refine jMet (own := RX12) (em := id) (L := [(0, 2, 0)]) (by decide +kernel) rfl (Nat.le_of_ble_eq_true rfl) rfl (fun K hR => ?_)
  unfold m_readsAll
  refine z_aload_n (pc := 0) hR 0 dX12_readsAll_0 rfl rfl ?_
  refine z_getr (pc := 1) hR (c0 := 3) (r := 3) jf_RX12_17 kmo_0 (by decide) rfl rfl dX12_readsAll_1 ?_
  refine z_aload_n (pc := 4) hR 0 dX12_readsAll_4 rfl rfl ?_
  refine z_geti (pc := 5) hR (j := 11) jf_RX12_155 kmo_0 (by decide) rfl rfl dX12_readsAll_5 ?_
  refine z_iconst (pc := 8) hR dX12_readsAll_8 rfl ?_
  refine z_chk (fun hc1 => ?_)
  refine z_iast (pc := 9) hR (n := 7) kma_3 hc1.1 hc1.2 dX12_readsAll_9 (fun M2 => ?_)
  refine z_aload_n (pc := 10) hR 0 dX12_readsAll_10 rfl rfl ?_
  refine z_iconst (pc := 11) hR dX12_readsAll_11 rfl ?_
  refine z_puti (pc := 12) hR (j := 14) jp_RX12_256 kmo_0 (by decide) rfl rfl rfl rfl dX12_readsAll_12 (fun M3 => ?_)
  refine z_aload_n (pc := 15) hR 0 dX12_readsAll_15 rfl rfl ?_
  refine z_iconst (pc := 16) hR dX12_readsAll_16 rfl ?_
  refine z_puti (pc := 17) hR (j := 8) jp_RX12_99 kmo_0 (by decide) rfl rfl rfl rfl dX12_readsAll_17 (fun M4 => ?_)
  refine z_aload_n (pc := 20) hR 0 dX12_readsAll_20 rfl rfl ?_
  refine z_iconst (pc := 21) hR dX12_readsAll_21 rfl ?_
  refine z_puti (pc := 22) hR (j := 9) jp_RX12_96 kmo_0 (by decide) rfl rfl rfl rfl dX12_readsAll_22 (fun M5 => ?_)
  refine z_aload_n (pc := 25) hR 0 dX12_readsAll_25 rfl rfl ?_
  refine z_iconst (pc := 26) hR dX12_readsAll_26 rfl ?_
  refine z_puti (pc := 27) hR (j := 12) jp_RX12_158 kmo_0 (by decide) rfl rfl rfl rfl dX12_readsAll_27 (fun M6 => ?_)
  refine z_aload_n (pc := 30) hR 0 dX12_readsAll_30 rfl rfl ?_
  refine z_callv1 (pc := 31) hR (As := []) (st := []) jm_X12_clauseHere jl_RX12_265 kmo_0 (by decide) rfl (by decide) (c_m_clauseHere N M6) rfl (by decide) (by decide) rfl (Nat.le_of_ble_eq_true rfl) dX12_readsAll_31 (fun r7 M8 => ?_)
  refine z_istore_n (pc := 34) hR (lv' := [(1, 0, r7), (0, 2, 0)]) dX12_readsAll_34 rfl (by decide) rfl ?_
  refine z_pick (pc := 35) (lv' := [(0, 2, 0), (1, 0, r7)]) hR [1, 0] rfl ?_
  refine z_fix (σ := Int × jMem) (lv := fun s => [(0, 2, 0), (1, 0, s.1)]) (st := fun _ => []) (M := fun s => s.2) (fun h35 hh35 => ?_) N (r7, M8)
  rintro ⟨x9, M10⟩
  show jZ K id 35 [(0, 2, 0), (1, 0, x9)] [] M10 _
  unfold m_readsAll_L35
  refine z_iload_n (pc := 35) hR 1 dX12_readsAll_35 rfl rfl ?_
  refine z_join (P := fun j => ∀ (M11 : jMem), jZ K id 66 [(0, 2, 0), (1, 0, x9)] [] M11 (j M11)) (fun M11 => ?_) (fun j66 hj66 => ?_)
  · refine z_iload_n (pc := 66) hR 1 dX12_readsAll_66 rfl rfl ?_
    refine z_join (P := fun j => ∀ (M12 : jMem), jZ K id 88 [(0, 2, 0)] [] M12 (j M12)) (fun M12 => ?_) (fun j88 hj88 => ?_)
    · refine z_aload_n (pc := 88) hR 0 dX12_readsAll_88 rfl rfl ?_
      refine z_iconst (pc := 89) hR dX12_readsAll_89 rfl ?_
      refine z_puti (pc := 90) hR (j := 1) jp_RX12_89 kmo_0 (by decide) rfl rfl rfl rfl dX12_readsAll_90 (fun M13 => ?_)
      refine z_aload_n (pc := 93) hR 0 dX12_readsAll_93 rfl rfl ?_
      refine z_geti (pc := 94) hR (j := 9) jf_RX12_96 kmo_0 (by decide) rfl rfl dX12_readsAll_94 ?_
      refine z_ifne (pc := 97) (tgt := 104) hR dX12_readsAll_97 (by decide) ?_ ?_
      · refine z_iconst (pc := 104) hR dX12_readsAll_104 rfl ?_
        exact z_zreturn (pc := 105) hR rfl rfl (Or.inl rfl) dX12_readsAll_105 rfl
      · refine z_iconst (pc := 100) hR dX12_readsAll_100 rfl ?_
        refine z_goto (pc := 101) (tgt := 105) hR dX12_readsAll_101 (by decide) ?_
        exact z_zreturn (pc := 105) hR rfl rfl (Or.inr rfl) dX12_readsAll_105 rfl
    refine z_ifeq (pc := 67) (tgt := 88) hR dX12_readsAll_67 (by decide) ?_ ?_
    · refine z_pick (pc := 88) (lv' := [(0, 2, 0)]) hR [0] rfl ?_
      exact hj88 M11
    · refine z_aload_n (pc := 70) hR 0 dX12_readsAll_70 rfl rfl ?_
      refine z_callv1 (pc := 71) hR (As := []) (st := []) jm_X12_see jl_RX12_102 kmo_0 (by decide) rfl (by decide) (c_m_see N M11) rfl (by decide) (by decide) rfl (Nat.le_of_ble_eq_true rfl) dX12_readsAll_71 (fun r14 M15 => ?_)
      refine z_iconst (pc := 74) hR dX12_readsAll_74 rfl ?_
      refine z_icmpeq (pc := 75) (tgt := 88) hR dX12_readsAll_75 (by decide) ?_ ?_
      · refine z_pick (pc := 88) (lv' := [(0, 2, 0)]) hR [0] rfl ?_
        exact hj88 M15
      · refine z_aload_n (pc := 78) hR 0 dX12_readsAll_78 rfl rfl ?_
        refine z_iconst (pc := 79) hR dX12_readsAll_79 rfl ?_
        refine z_aload_n (pc := 80) hR 0 dX12_readsAll_80 rfl rfl ?_
        refine z_geti (pc := 81) hR (j := 8) jf_RX12_99 kmo_0 (by decide) rfl rfl dX12_readsAll_81 ?_
        refine z_callv1 (pc := 84) hR (As := [(0, 0), (0, (M15 0 8))]) (st := []) jm_X12_fails jl_RX12_120 kmo_0 (by decide) rfl (by decide) (c_m_fails N 0 ((M15 0 8)) M15) rfl (by decide) (by decide) rfl (Nat.le_of_ble_eq_true rfl) dX12_readsAll_84 (fun r16 M17 => ?_)
        refine z_pop (pc := 87) hR dX12_readsAll_87 (by decide) ?_
        refine z_pick (pc := 88) (lv' := [(0, 2, 0)]) hR [0] rfl ?_
        exact hj88 M17
  refine z_ifeq (pc := 36) (tgt := 66) hR dX12_readsAll_36 (by decide) ?_ ?_
  · exact hj66 M10
  · refine z_aload_n (pc := 39) hR 0 dX12_readsAll_39 rfl rfl ?_
    refine z_callv1 (pc := 40) hR (As := []) (st := []) jm_X12_see jl_RX12_102 kmo_0 (by decide) rfl (by decide) (c_m_see N M10) rfl (by decide) (by decide) rfl (Nat.le_of_ble_eq_true rfl) dX12_readsAll_40 (fun r18 M19 => ?_)
    refine z_bipush (pc := 43) hR dX12_readsAll_43 rfl ?_
    refine z_icmpne (pc := 45) (tgt := 66) hR dX12_readsAll_45 (by decide) ?_ ?_
    · exact hj66 M19
    · refine z_aload_n (pc := 48) hR 0 dX12_readsAll_48 rfl rfl ?_
      refine z_dup (pc := 49) hR dX12_readsAll_49 (by decide) ?_
      refine z_geti (pc := 50) hR (j := 8) jf_RX12_99 kmo_0 (by decide) rfl rfl dX12_readsAll_50 ?_
      refine z_iconst (pc := 53) hR dX12_readsAll_53 rfl ?_
      refine z_iadd (pc := 54) hR dX12_readsAll_54 ?_
      refine z_puti (pc := 55) hR (j := 8) jp_RX12_99 kmo_0 (by decide) rfl rfl rfl rfl dX12_readsAll_55 (fun M20 => ?_)
      refine z_aload_n (pc := 58) hR 0 dX12_readsAll_58 rfl rfl ?_
      refine z_callv1 (pc := 59) hR (As := []) (st := []) jm_X12_clauseHere jl_RX12_265 kmo_0 (by decide) rfl (by decide) (c_m_clauseHere N M20) rfl (by decide) (by decide) rfl (Nat.le_of_ble_eq_true rfl) dX12_readsAll_59 (fun r21 M22 => ?_)
      refine z_istore_n (pc := 62) hR (lv' := [(1, 0, r21), (0, 2, 0)]) dX12_readsAll_62 rfl (by decide) rfl ?_
      refine z_goto (pc := 63) (tgt := 35) hR dX12_readsAll_63 (by decide) ?_
      refine z_pick (pc := 35) (lv' := [(0, 2, 0), (1, 0, r21)]) hR [1, 0] rfl ?_
      exact hh35 (r21, M22)
theorem dX12_rule_0 : decode cX12_rule 0 = .ok (.aload_n 0, 1) := by decide +kernel
theorem dX12_rule_1 : decode cX12_rule 1 = .ok (.getfield 268, 3) := by decide +kernel
theorem dX12_rule_4 : decode cX12_rule 4 = .ok (.bipush 6, 2) := by decide +kernel
theorem dX12_rule_6 : decode cX12_rule 6 = .ok (.if_icmp .ne 5, 3) := by decide +kernel
theorem dX12_rule_9 : decode cX12_rule 9 = .ok (.iconst (-1), 1) := by decide +kernel
theorem dX12_rule_10 : decode cX12_rule 10 = .ok (.ireturn, 1) := by decide +kernel
theorem dX12_rule_11 : decode cX12_rule 11 = .ok (.aload_n 0, 1) := by decide +kernel
theorem dX12_rule_12 : decode cX12_rule 12 = .ok (.aload_n 0, 1) := by decide +kernel
theorem dX12_rule_13 : decode cX12_rule 13 = .ok (.getfield 268, 3) := by decide +kernel
theorem dX12_rule_16 : decode cX12_rule 16 = .ok (.putfield 155, 3) := by decide +kernel
theorem dX12_rule_19 : decode cX12_rule 19 = .ok (.aload_n 0, 1) := by decide +kernel
theorem dX12_rule_20 : decode cX12_rule 20 = .ok (.getfield 23, 3) := by decide +kernel
theorem dX12_rule_23 : decode cX12_rule 23 = .ok (.aload_n 0, 1) := by decide +kernel
theorem dX12_rule_24 : decode cX12_rule 24 = .ok (.getfield 155, 3) := by decide +kernel
theorem dX12_rule_27 : decode cX12_rule 27 = .ok (.iconst 0, 1) := by decide +kernel
theorem dX12_rule_28 : decode cX12_rule 28 = .ok (.iastore, 1) := by decide +kernel
theorem dX12_rule_29 : decode cX12_rule 29 = .ok (.aload_n 0, 1) := by decide +kernel
theorem dX12_rule_30 : decode cX12_rule 30 = .ok (.invokevirtual 271, 3) := by decide +kernel
theorem dX12_rule_33 : decode cX12_rule 33 = .ok (.ifCond .ne 11, 3) := by decide +kernel
theorem dX12_rule_36 : decode cX12_rule 36 = .ok (.bipush (-2), 2) := by decide +kernel
theorem dX12_rule_38 : decode cX12_rule 38 = .ok (.aload_n 0, 1) := by decide +kernel
theorem dX12_rule_39 : decode cX12_rule 39 = .ok (.getfield 96, 3) := by decide +kernel
theorem dX12_rule_42 : decode cX12_rule 42 = .ok (.isub, 1) := by decide +kernel
theorem dX12_rule_43 : decode cX12_rule 43 = .ok (.ireturn, 1) := by decide +kernel
theorem dX12_rule_44 : decode cX12_rule 44 = .ok (.aload_n 0, 1) := by decide +kernel
theorem dX12_rule_45 : decode cX12_rule 45 = .ok (.dup, 1) := by decide +kernel
theorem dX12_rule_46 : decode cX12_rule 46 = .ok (.getfield 268, 3) := by decide +kernel
theorem dX12_rule_49 : decode cX12_rule 49 = .ok (.iconst 1, 1) := by decide +kernel
theorem dX12_rule_50 : decode cX12_rule 50 = .ok (.iadd, 1) := by decide +kernel
theorem dX12_rule_51 : decode cX12_rule 51 = .ok (.putfield 268, 3) := by decide +kernel
theorem dX12_rule_54 : decode cX12_rule 54 = .ok (.aload_n 0, 1) := by decide +kernel
theorem dX12_rule_55 : decode cX12_rule 55 = .ok (.getfield 268, 3) := by decide +kernel
theorem dX12_rule_58 : decode cX12_rule 58 = .ok (.iconst 1, 1) := by decide +kernel
theorem dX12_rule_59 : decode cX12_rule 59 = .ok (.isub, 1) := by decide +kernel
theorem dX12_rule_60 : decode cX12_rule 60 = .ok (.ireturn, 1) := by decide +kernel
def m_rule (N : Nat) (M : jMem) : Option (Int × jMem) := (if (M 0 2) = 6 then some ((-1), M) else jlt (up M 0 11 ((M 0 2))) fun M1 => jchk (0 ≤ (M1 0 11) ∧ (M1 0 11) < 6) <| jlt (up M1 5 ((M1 0 11)) 0) fun M3 => jb1 (m_readsAll N M3) fun r4 M5 => (if r4 = 0 then some ((w32 (((-2)) - ((M5 0 9)))), M5) else jlt (up M5 0 2 ((w32 (((M5 0 2)) + 1)))) fun M6 => some ((w32 (((M6 0 2)) - 1)), M6)))
theorem c_m_rule {l : Launch} {g : jG} (N : Nat) (M : jMem)  : ∀ o, m_rule N  M = some o → jCt l g jTM yX12_rule cX12_rule 1 (some .int) 0 25 [(2, 0)] M o := by
  refine jMet (own := RX12) (em := id) (L := [(0, 2, 0)]) (by decide +kernel) rfl (Nat.le_of_ble_eq_true rfl) rfl (fun K hR => ?_)
  unfold m_rule
  refine z_aload_n (pc := 0) hR 0 dX12_rule_0 rfl rfl ?_
  refine z_geti (pc := 1) hR (j := 2) jf_RX12_268 kmo_0 (by decide) rfl rfl dX12_rule_1 ?_
  refine z_bipush (pc := 4) hR dX12_rule_4 rfl ?_
  refine z_icmpne (pc := 6) (tgt := 11) hR dX12_rule_6 (by decide) ?_ ?_
  · refine z_aload_n (pc := 11) hR 0 dX12_rule_11 rfl rfl ?_
    refine z_aload_n (pc := 12) hR 0 dX12_rule_12 rfl rfl ?_
    refine z_geti (pc := 13) hR (j := 2) jf_RX12_268 kmo_0 (by decide) rfl rfl dX12_rule_13 ?_
    refine z_puti (pc := 16) hR (j := 11) jp_RX12_155 kmo_0 (by decide) rfl rfl rfl rfl dX12_rule_16 (fun M1 => ?_)
    refine z_aload_n (pc := 19) hR 0 dX12_rule_19 rfl rfl ?_
    refine z_getr (pc := 20) hR (c0 := 5) (r := 5) jf_RX12_23 kmo_0 (by decide) rfl rfl dX12_rule_20 ?_
    refine z_aload_n (pc := 23) hR 0 dX12_rule_23 rfl rfl ?_
    refine z_geti (pc := 24) hR (j := 11) jf_RX12_155 kmo_0 (by decide) rfl rfl dX12_rule_24 ?_
    refine z_iconst (pc := 27) hR dX12_rule_27 rfl ?_
    refine z_chk (fun hc2 => ?_)
    refine z_iast (pc := 28) hR (n := 6) kma_5 hc2.1 hc2.2 dX12_rule_28 (fun M3 => ?_)
    refine z_aload_n (pc := 29) hR 0 dX12_rule_29 rfl rfl ?_
    refine z_callv1 (pc := 30) hR (As := []) (st := []) jm_X12_readsAll jl_RX12_271 kmo_0 (by decide) rfl (by decide) (c_m_readsAll N M3) rfl (by decide) (by decide) rfl (Nat.le_of_ble_eq_true rfl) dX12_rule_30 (fun r4 M5 => ?_)
    refine z_ifne (pc := 33) (tgt := 44) hR dX12_rule_33 (by decide) ?_ ?_
    · refine z_aload_n (pc := 44) hR 0 dX12_rule_44 rfl rfl ?_
      refine z_dup (pc := 45) hR dX12_rule_45 (by decide) ?_
      refine z_geti (pc := 46) hR (j := 2) jf_RX12_268 kmo_0 (by decide) rfl rfl dX12_rule_46 ?_
      refine z_iconst (pc := 49) hR dX12_rule_49 rfl ?_
      refine z_iadd (pc := 50) hR dX12_rule_50 ?_
      refine z_puti (pc := 51) hR (j := 2) jp_RX12_268 kmo_0 (by decide) rfl rfl rfl rfl dX12_rule_51 (fun M6 => ?_)
      refine z_aload_n (pc := 54) hR 0 dX12_rule_54 rfl rfl ?_
      refine z_geti (pc := 55) hR (j := 2) jf_RX12_268 kmo_0 (by decide) rfl rfl dX12_rule_55 ?_
      refine z_iconst (pc := 58) hR dX12_rule_58 rfl ?_
      refine z_isub (pc := 59) hR dX12_rule_59 ?_
      exact z_ireturn (pc := 60) hR rfl rfl dX12_rule_60 rfl
    · refine z_bipush (pc := 36) hR dX12_rule_36 rfl ?_
      refine z_aload_n (pc := 38) hR 0 dX12_rule_38 rfl rfl ?_
      refine z_geti (pc := 39) hR (j := 9) jf_RX12_96 kmo_0 (by decide) rfl rfl dX12_rule_39 ?_
      refine z_isub (pc := 42) hR dX12_rule_42 ?_
      exact z_ireturn (pc := 43) hR rfl rfl dX12_rule_43 rfl
  · refine z_iconst (pc := 9) hR dX12_rule_9 rfl ?_
    exact z_ireturn (pc := 10) hR rfl rfl dX12_rule_10 rfl
theorem dX12_begins_0 : decode cX12_begins 0 = .ok (.aload_n 0, 1) := by decide +kernel
theorem dX12_begins_1 : decode cX12_begins 1 = .ok (.getfield 39, 3) := by decide +kernel
theorem dX12_begins_4 : decode cX12_begins 4 = .ok (.bipush 10, 2) := by decide +kernel
theorem dX12_begins_6 : decode cX12_begins 6 = .ok (.iconst 0, 1) := by decide +kernel
theorem dX12_begins_7 : decode cX12_begins 7 = .ok (.iastore, 1) := by decide +kernel
theorem dX12_begins_8 : decode cX12_begins 8 = .ok (.iconst 0, 1) := by decide +kernel
theorem dX12_begins_9 : decode cX12_begins 9 = .ok (.istore_n 1, 1) := by decide +kernel
theorem dX12_begins_10 : decode cX12_begins 10 = .ok (.iload_n 1, 1) := by decide +kernel
theorem dX12_begins_11 : decode cX12_begins 11 = .ok (.bipush 7, 2) := by decide +kernel
theorem dX12_begins_13 : decode cX12_begins 13 = .ok (.if_icmp .ge 91, 3) := by decide +kernel
theorem dX12_begins_16 : decode cX12_begins 16 = .ok (.aload_n 0, 1) := by decide +kernel
theorem dX12_begins_17 : decode cX12_begins 17 = .ok (.getfield 39, 3) := by decide +kernel
theorem dX12_begins_20 : decode cX12_begins 20 = .ok (.bipush 11, 2) := by decide +kernel
theorem dX12_begins_22 : decode cX12_begins 22 = .ok (.iload_n 1, 1) := by decide +kernel
theorem dX12_begins_23 : decode cX12_begins 23 = .ok (.iadd, 1) := by decide +kernel
theorem dX12_begins_24 : decode cX12_begins 24 = .ok (.aload_n 0, 1) := by decide +kernel
theorem dX12_begins_25 : decode cX12_begins 25 = .ok (.getfield 39, 3) := by decide +kernel
theorem dX12_begins_28 : decode cX12_begins 28 = .ok (.bipush 60, 2) := by decide +kernel
theorem dX12_begins_30 : decode cX12_begins 30 = .ok (.iload_n 1, 1) := by decide +kernel
theorem dX12_begins_31 : decode cX12_begins 31 = .ok (.iadd, 1) := by decide +kernel
theorem dX12_begins_32 : decode cX12_begins 32 = .ok (.iaload, 1) := by decide +kernel
theorem dX12_begins_33 : decode cX12_begins 33 = .ok (.iastore, 1) := by decide +kernel
theorem dX12_begins_34 : decode cX12_begins 34 = .ok (.aload_n 0, 1) := by decide +kernel
theorem dX12_begins_35 : decode cX12_begins 35 = .ok (.getfield 39, 3) := by decide +kernel
theorem dX12_begins_38 : decode cX12_begins 38 = .ok (.bipush 18, 2) := by decide +kernel
theorem dX12_begins_40 : decode cX12_begins 40 = .ok (.iload_n 1, 1) := by decide +kernel
theorem dX12_begins_41 : decode cX12_begins 41 = .ok (.iadd, 1) := by decide +kernel
theorem dX12_begins_42 : decode cX12_begins 42 = .ok (.aload_n 0, 1) := by decide +kernel
theorem dX12_begins_43 : decode cX12_begins 43 = .ok (.getfield 39, 3) := by decide +kernel
theorem dX12_begins_46 : decode cX12_begins 46 = .ok (.bipush 67, 2) := by decide +kernel
theorem dX12_begins_48 : decode cX12_begins 48 = .ok (.iload_n 1, 1) := by decide +kernel
theorem dX12_begins_49 : decode cX12_begins 49 = .ok (.iadd, 1) := by decide +kernel
theorem dX12_begins_50 : decode cX12_begins 50 = .ok (.iaload, 1) := by decide +kernel
theorem dX12_begins_51 : decode cX12_begins 51 = .ok (.iastore, 1) := by decide +kernel
theorem dX12_begins_52 : decode cX12_begins 52 = .ok (.aload_n 0, 1) := by decide +kernel
theorem dX12_begins_53 : decode cX12_begins 53 = .ok (.getfield 39, 3) := by decide +kernel
theorem dX12_begins_56 : decode cX12_begins 56 = .ok (.bipush 25, 2) := by decide +kernel
theorem dX12_begins_58 : decode cX12_begins 58 = .ok (.iload_n 1, 1) := by decide +kernel
theorem dX12_begins_59 : decode cX12_begins 59 = .ok (.iadd, 1) := by decide +kernel
theorem dX12_begins_60 : decode cX12_begins 60 = .ok (.aload_n 0, 1) := by decide +kernel
theorem dX12_begins_61 : decode cX12_begins 61 = .ok (.getfield 39, 3) := by decide +kernel
theorem dX12_begins_64 : decode cX12_begins 64 = .ok (.bipush 60, 2) := by decide +kernel
theorem dX12_begins_66 : decode cX12_begins 66 = .ok (.iload_n 1, 1) := by decide +kernel
theorem dX12_begins_67 : decode cX12_begins 67 = .ok (.iadd, 1) := by decide +kernel
theorem dX12_begins_68 : decode cX12_begins 68 = .ok (.iaload, 1) := by decide +kernel
theorem dX12_begins_69 : decode cX12_begins 69 = .ok (.iastore, 1) := by decide +kernel
theorem dX12_begins_70 : decode cX12_begins 70 = .ok (.aload_n 0, 1) := by decide +kernel
theorem dX12_begins_71 : decode cX12_begins 71 = .ok (.getfield 39, 3) := by decide +kernel
theorem dX12_begins_74 : decode cX12_begins 74 = .ok (.bipush 32, 2) := by decide +kernel
theorem dX12_begins_76 : decode cX12_begins 76 = .ok (.iload_n 1, 1) := by decide +kernel
theorem dX12_begins_77 : decode cX12_begins 77 = .ok (.iadd, 1) := by decide +kernel
theorem dX12_begins_78 : decode cX12_begins 78 = .ok (.iload_n 1, 1) := by decide +kernel
theorem dX12_begins_79 : decode cX12_begins 79 = .ok (.iastore, 1) := by decide +kernel
theorem dX12_begins_80 : decode cX12_begins 80 = .ok (.aload_n 0, 1) := by decide +kernel
theorem dX12_begins_81 : decode cX12_begins 81 = .ok (.getfield 39, 3) := by decide +kernel
theorem dX12_begins_84 : decode cX12_begins 84 = .ok (.bipush 39, 2) := by decide +kernel
theorem dX12_begins_86 : decode cX12_begins 86 = .ok (.iload_n 1, 1) := by decide +kernel
theorem dX12_begins_87 : decode cX12_begins 87 = .ok (.iadd, 1) := by decide +kernel
theorem dX12_begins_88 : decode cX12_begins 88 = .ok (.aload_n 0, 1) := by decide +kernel
theorem dX12_begins_89 : decode cX12_begins 89 = .ok (.getfield 39, 3) := by decide +kernel
theorem dX12_begins_92 : decode cX12_begins 92 = .ok (.bipush 74, 2) := by decide +kernel
theorem dX12_begins_94 : decode cX12_begins 94 = .ok (.iload_n 1, 1) := by decide +kernel
theorem dX12_begins_95 : decode cX12_begins 95 = .ok (.iadd, 1) := by decide +kernel
theorem dX12_begins_96 : decode cX12_begins 96 = .ok (.iaload, 1) := by decide +kernel
theorem dX12_begins_97 : decode cX12_begins 97 = .ok (.iastore, 1) := by decide +kernel
theorem dX12_begins_98 : decode cX12_begins 98 = .ok (.iinc 1 1, 3) := by decide +kernel
theorem dX12_begins_101 : decode cX12_begins 101 = .ok (.goto (-91), 3) := by decide +kernel
theorem dX12_begins_104 : decode cX12_begins 104 = .ok (.return_, 1) := by decide +kernel
def m_begins_L10 (N : Nat)  (h10 : (Int × jMem) → Option (Int × jMem)) : Int × jMem → Option (Int × jMem)
  | (x2, M3) => (if x2 < 7 then jchk (0 ≤ (w32 (60 + x2)) ∧ (w32 (60 + x2)) < 112) <| jchk (0 ≤ (w32 (11 + x2)) ∧ (w32 (11 + x2)) < 112) <| jlt (up M3 10 ((w32 (11 + x2))) ((M3 10 ((w32 (60 + x2)))))) fun M6 => jchk (0 ≤ (w32 (67 + x2)) ∧ (w32 (67 + x2)) < 112) <| jchk (0 ≤ (w32 (18 + x2)) ∧ (w32 (18 + x2)) < 112) <| jlt (up M6 10 ((w32 (18 + x2))) ((M6 10 ((w32 (67 + x2)))))) fun M9 => jchk (0 ≤ (w32 (60 + x2)) ∧ (w32 (60 + x2)) < 112) <| jchk (0 ≤ (w32 (25 + x2)) ∧ (w32 (25 + x2)) < 112) <| jlt (up M9 10 ((w32 (25 + x2))) ((M9 10 ((w32 (60 + x2)))))) fun M12 => jchk (0 ≤ (w32 (32 + x2)) ∧ (w32 (32 + x2)) < 112) <| jlt (up M12 10 ((w32 (32 + x2))) x2) fun M14 => jchk (0 ≤ (w32 (74 + x2)) ∧ (w32 (74 + x2)) < 112) <| jchk (0 ≤ (w32 (39 + x2)) ∧ (w32 (39 + x2)) < 112) <| jlt (up M14 10 ((w32 (39 + x2))) ((M14 10 ((w32 (74 + x2)))))) fun M17 => h10 ((w32 (x2 + 1)), M17) else some (0, M3))
def m_begins (N : Nat) (M : jMem) : Option (Int × jMem) := jlt (up M 10 10 0) fun M1 => jfix N (m_begins_L10 N) (0, M1)
theorem c_m_begins {l : Launch} {g : jG} (N : Nat) (M : jMem)  : ∀ o, m_begins N  M = some o → jCt l g jTM yX12_begins cX12_begins 2 none 3 1 [(2, 0)] M o := by
  refine jMet (own := RX12) (em := id) (L := [(0, 2, 0)]) (by decide +kernel) rfl (Nat.le_of_ble_eq_true rfl) rfl (fun K hR => ?_)
  unfold m_begins
  refine z_aload_n (pc := 0) hR 0 dX12_begins_0 rfl rfl ?_
  refine z_getr (pc := 1) hR (c0 := 10) (r := 10) jf_RX12_39 kmo_0 (by decide) rfl rfl dX12_begins_1 ?_
  refine z_bipush (pc := 4) hR dX12_begins_4 rfl ?_
  refine z_iconst (pc := 6) hR dX12_begins_6 rfl ?_
  refine z_iast (pc := 7) hR (n := 112) kma_10 (by decide) (by decide) dX12_begins_7 (fun M1 => ?_)
  refine z_iconst (pc := 8) hR dX12_begins_8 rfl ?_
  refine z_istore_n (pc := 9) hR (lv' := [(1, 0, 0), (0, 2, 0)]) dX12_begins_9 rfl (by decide) rfl ?_
  refine z_pick (pc := 10) (lv' := [(0, 2, 0), (1, 0, 0)]) hR [1, 0] rfl ?_
  refine z_fix (σ := Int × jMem) (lv := fun s => [(0, 2, 0), (1, 0, s.1)]) (st := fun _ => []) (M := fun s => s.2) (fun h10 hh10 => ?_) N (0, M1)
  rintro ⟨x2, M3⟩
  show jZ K id 10 [(0, 2, 0), (1, 0, x2)] [] M3 _
  unfold m_begins_L10
  refine z_iload_n (pc := 10) hR 1 dX12_begins_10 rfl rfl ?_
  refine z_bipush (pc := 11) hR dX12_begins_11 rfl ?_
  refine z_icmpge (pc := 13) (tgt := 104) hR dX12_begins_13 (by decide) ?_ ?_
  · exact z_return (x := 0) (pc := 104) hR rfl rfl dX12_begins_104 rfl
  · refine z_aload_n (pc := 16) hR 0 dX12_begins_16 rfl rfl ?_
    refine z_getr (pc := 17) hR (c0 := 10) (r := 10) jf_RX12_39 kmo_0 (by decide) rfl rfl dX12_begins_17 ?_
    refine z_bipush (pc := 20) hR dX12_begins_20 rfl ?_
    refine z_iload_n (pc := 22) hR 1 dX12_begins_22 rfl rfl ?_
    refine z_iadd (pc := 23) hR dX12_begins_23 ?_
    refine z_aload_n (pc := 24) hR 0 dX12_begins_24 rfl rfl ?_
    refine z_getr (pc := 25) hR (c0 := 10) (r := 10) jf_RX12_39 kmo_0 (by decide) rfl rfl dX12_begins_25 ?_
    refine z_bipush (pc := 28) hR dX12_begins_28 rfl ?_
    refine z_iload_n (pc := 30) hR 1 dX12_begins_30 rfl rfl ?_
    refine z_iadd (pc := 31) hR dX12_begins_31 ?_
    refine z_chk (fun hc4 => ?_)
    refine z_iald (pc := 32) hR (n := 112) kma_10 hc4.1 hc4.2 dX12_begins_32 ?_
    refine z_chk (fun hc5 => ?_)
    refine z_iast (pc := 33) hR (n := 112) kma_10 hc5.1 hc5.2 dX12_begins_33 (fun M6 => ?_)
    refine z_aload_n (pc := 34) hR 0 dX12_begins_34 rfl rfl ?_
    refine z_getr (pc := 35) hR (c0 := 10) (r := 10) jf_RX12_39 kmo_0 (by decide) rfl rfl dX12_begins_35 ?_
    refine z_bipush (pc := 38) hR dX12_begins_38 rfl ?_
    refine z_iload_n (pc := 40) hR 1 dX12_begins_40 rfl rfl ?_
    refine z_iadd (pc := 41) hR dX12_begins_41 ?_
    refine z_aload_n (pc := 42) hR 0 dX12_begins_42 rfl rfl ?_
    refine z_getr (pc := 43) hR (c0 := 10) (r := 10) jf_RX12_39 kmo_0 (by decide) rfl rfl dX12_begins_43 ?_
    refine z_bipush (pc := 46) hR dX12_begins_46 rfl ?_
    refine z_iload_n (pc := 48) hR 1 dX12_begins_48 rfl rfl ?_
    refine z_iadd (pc := 49) hR dX12_begins_49 ?_
    refine z_chk (fun hc7 => ?_)
    refine z_iald (pc := 50) hR (n := 112) kma_10 hc7.1 hc7.2 dX12_begins_50 ?_
    refine z_chk (fun hc8 => ?_)
    refine z_iast (pc := 51) hR (n := 112) kma_10 hc8.1 hc8.2 dX12_begins_51 (fun M9 => ?_)
    refine z_aload_n (pc := 52) hR 0 dX12_begins_52 rfl rfl ?_
    refine z_getr (pc := 53) hR (c0 := 10) (r := 10) jf_RX12_39 kmo_0 (by decide) rfl rfl dX12_begins_53 ?_
    refine z_bipush (pc := 56) hR dX12_begins_56 rfl ?_
    refine z_iload_n (pc := 58) hR 1 dX12_begins_58 rfl rfl ?_
    refine z_iadd (pc := 59) hR dX12_begins_59 ?_
    refine z_aload_n (pc := 60) hR 0 dX12_begins_60 rfl rfl ?_
    refine z_getr (pc := 61) hR (c0 := 10) (r := 10) jf_RX12_39 kmo_0 (by decide) rfl rfl dX12_begins_61 ?_
    refine z_bipush (pc := 64) hR dX12_begins_64 rfl ?_
    refine z_iload_n (pc := 66) hR 1 dX12_begins_66 rfl rfl ?_
    refine z_iadd (pc := 67) hR dX12_begins_67 ?_
    refine z_chk (fun hc10 => ?_)
    refine z_iald (pc := 68) hR (n := 112) kma_10 hc10.1 hc10.2 dX12_begins_68 ?_
    refine z_chk (fun hc11 => ?_)
    refine z_iast (pc := 69) hR (n := 112) kma_10 hc11.1 hc11.2 dX12_begins_69 (fun M12 => ?_)
    refine z_aload_n (pc := 70) hR 0 dX12_begins_70 rfl rfl ?_
    refine z_getr (pc := 71) hR (c0 := 10) (r := 10) jf_RX12_39 kmo_0 (by decide) rfl rfl dX12_begins_71 ?_
    refine z_bipush (pc := 74) hR dX12_begins_74 rfl ?_
    refine z_iload_n (pc := 76) hR 1 dX12_begins_76 rfl rfl ?_
    refine z_iadd (pc := 77) hR dX12_begins_77 ?_
    refine z_iload_n (pc := 78) hR 1 dX12_begins_78 rfl rfl ?_
    refine z_chk (fun hc13 => ?_)
    refine z_iast (pc := 79) hR (n := 112) kma_10 hc13.1 hc13.2 dX12_begins_79 (fun M14 => ?_)
    refine z_aload_n (pc := 80) hR 0 dX12_begins_80 rfl rfl ?_
    refine z_getr (pc := 81) hR (c0 := 10) (r := 10) jf_RX12_39 kmo_0 (by decide) rfl rfl dX12_begins_81 ?_
    refine z_bipush (pc := 84) hR dX12_begins_84 rfl ?_
    refine z_iload_n (pc := 86) hR 1 dX12_begins_86 rfl rfl ?_
    refine z_iadd (pc := 87) hR dX12_begins_87 ?_
    refine z_aload_n (pc := 88) hR 0 dX12_begins_88 rfl rfl ?_
    refine z_getr (pc := 89) hR (c0 := 10) (r := 10) jf_RX12_39 kmo_0 (by decide) rfl rfl dX12_begins_89 ?_
    refine z_bipush (pc := 92) hR dX12_begins_92 rfl ?_
    refine z_iload_n (pc := 94) hR 1 dX12_begins_94 rfl rfl ?_
    refine z_iadd (pc := 95) hR dX12_begins_95 ?_
    refine z_chk (fun hc15 => ?_)
    refine z_iald (pc := 96) hR (n := 112) kma_10 hc15.1 hc15.2 dX12_begins_96 ?_
    refine z_chk (fun hc16 => ?_)
    refine z_iast (pc := 97) hR (n := 112) kma_10 hc16.1 hc16.2 dX12_begins_97 (fun M17 => ?_)
    refine z_iinc (pc := 98) hR (j := 1) (lv' := [(1, 0, (w32 (x2 + 1))), (0, 2, 0)]) dX12_begins_98 rfl (by decide) rfl ?_
    refine z_goto (pc := 101) (tgt := 10) hR dX12_begins_101 (by decide) ?_
    refine z_pick (pc := 10) (lv' := [(0, 2, 0), (1, 0, (w32 (x2 + 1)))]) hR [1, 0] rfl ?_
    exact hh10 ((w32 (x2 + 1)), M17)
theorem dX12_parish_0 : decode cX12_parish 0 = .ok (.aload_n 0, 1) := by decide +kernel
theorem dX12_parish_1 : decode cX12_parish 1 = .ok (.bipush 6, 2) := by decide +kernel
theorem dX12_parish_3 : decode cX12_parish 3 = .ok (.putfield 155, 3) := by decide +kernel
theorem dX12_parish_6 : decode cX12_parish 6 = .ok (.iconst 0, 1) := by decide +kernel
theorem dX12_parish_7 : decode cX12_parish 7 = .ok (.istore_n 1, 1) := by decide +kernel
theorem dX12_parish_8 : decode cX12_parish 8 = .ok (.iload_n 1, 1) := by decide +kernel
theorem dX12_parish_9 : decode cX12_parish 9 = .ok (.bipush 81, 2) := by decide +kernel
theorem dX12_parish_11 : decode cX12_parish 11 = .ok (.if_icmp .ge 16, 3) := by decide +kernel
theorem dX12_parish_14 : decode cX12_parish 14 = .ok (.aload_n 0, 1) := by decide +kernel
theorem dX12_parish_15 : decode cX12_parish 15 = .ok (.getfield 26, 3) := by decide +kernel
theorem dX12_parish_18 : decode cX12_parish 18 = .ok (.iload_n 1, 1) := by decide +kernel
theorem dX12_parish_19 : decode cX12_parish 19 = .ok (.iconst 0, 1) := by decide +kernel
theorem dX12_parish_20 : decode cX12_parish 20 = .ok (.iastore, 1) := by decide +kernel
theorem dX12_parish_21 : decode cX12_parish 21 = .ok (.iinc 1 1, 3) := by decide +kernel
theorem dX12_parish_24 : decode cX12_parish 24 = .ok (.goto (-16), 3) := by decide +kernel
theorem dX12_parish_27 : decode cX12_parish 27 = .ok (.aload_n 0, 1) := by decide +kernel
theorem dX12_parish_28 : decode cX12_parish 28 = .ok (.invokevirtual 271, 3) := by decide +kernel
theorem dX12_parish_31 : decode cX12_parish 31 = .ok (.ifCond .ne 11, 3) := by decide +kernel
theorem dX12_parish_34 : decode cX12_parish 34 = .ok (.bipush (-2), 2) := by decide +kernel
theorem dX12_parish_36 : decode cX12_parish 36 = .ok (.aload_n 0, 1) := by decide +kernel
theorem dX12_parish_37 : decode cX12_parish 37 = .ok (.getfield 96, 3) := by decide +kernel
theorem dX12_parish_40 : decode cX12_parish 40 = .ok (.isub, 1) := by decide +kernel
theorem dX12_parish_41 : decode cX12_parish 41 = .ok (.ireturn, 1) := by decide +kernel
theorem dX12_parish_42 : decode cX12_parish 42 = .ok (.iconst 0, 1) := by decide +kernel
theorem dX12_parish_43 : decode cX12_parish 43 = .ok (.istore_n 1, 1) := by decide +kernel
theorem dX12_parish_44 : decode cX12_parish 44 = .ok (.iload_n 1, 1) := by decide +kernel
theorem dX12_parish_45 : decode cX12_parish 45 = .ok (.bipush 112, 2) := by decide +kernel
theorem dX12_parish_47 : decode cX12_parish 47 = .ok (.if_icmp .ge 31, 3) := by decide +kernel
theorem dX12_parish_50 : decode cX12_parish 50 = .ok (.aload_n 0, 1) := by decide +kernel
theorem dX12_parish_51 : decode cX12_parish 51 = .ok (.getfield 39, 3) := by decide +kernel
theorem dX12_parish_54 : decode cX12_parish 54 = .ok (.iload_n 1, 1) := by decide +kernel
theorem dX12_parish_55 : decode cX12_parish 55 = .ok (.iload_n 1, 1) := by decide +kernel
theorem dX12_parish_56 : decode cX12_parish 56 = .ok (.bipush 81, 2) := by decide +kernel
theorem dX12_parish_58 : decode cX12_parish 58 = .ok (.if_icmp .ge 12, 3) := by decide +kernel
theorem dX12_parish_61 : decode cX12_parish 61 = .ok (.aload_n 0, 1) := by decide +kernel
theorem dX12_parish_62 : decode cX12_parish 62 = .ok (.getfield 26, 3) := by decide +kernel
theorem dX12_parish_65 : decode cX12_parish 65 = .ok (.iload_n 1, 1) := by decide +kernel
theorem dX12_parish_66 : decode cX12_parish 66 = .ok (.iaload, 1) := by decide +kernel
theorem dX12_parish_67 : decode cX12_parish 67 = .ok (.goto 4, 3) := by decide +kernel
theorem dX12_parish_70 : decode cX12_parish 70 = .ok (.iconst 0, 1) := by decide +kernel
theorem dX12_parish_71 : decode cX12_parish 71 = .ok (.iastore, 1) := by decide +kernel
theorem dX12_parish_72 : decode cX12_parish 72 = .ok (.iinc 1 1, 3) := by decide +kernel
theorem dX12_parish_75 : decode cX12_parish 75 = .ok (.goto (-31), 3) := by decide +kernel
theorem dX12_parish_78 : decode cX12_parish 78 = .ok (.aload_n 0, 1) := by decide +kernel
theorem dX12_parish_79 : decode cX12_parish 79 = .ok (.invokevirtual 274, 3) := by decide +kernel
theorem dX12_parish_82 : decode cX12_parish 82 = .ok (.aload_n 0, 1) := by decide +kernel
theorem dX12_parish_83 : decode cX12_parish 83 = .ok (.iconst 0, 1) := by decide +kernel
theorem dX12_parish_84 : decode cX12_parish 84 = .ok (.putfield 277, 3) := by decide +kernel
theorem dX12_parish_87 : decode cX12_parish 87 = .ok (.aload_n 0, 1) := by decide +kernel
theorem dX12_parish_88 : decode cX12_parish 88 = .ok (.getfield 39, 3) := by decide +kernel
theorem dX12_parish_91 : decode cX12_parish 91 = .ok (.iconst 1, 1) := by decide +kernel
theorem dX12_parish_92 : decode cX12_parish 92 = .ok (.iaload, 1) := by decide +kernel
theorem dX12_parish_93 : decode cX12_parish 93 = .ok (.ireturn, 1) := by decide +kernel
def m_parish_L44 (N : Nat)  (h44 : (Int × jMem) → Option (Int × jMem)) : Int × jMem → Option (Int × jMem)
  | (x6, M7) => (if x6 < 112 then jlt (fun (u10 : Int) => jchk (0 ≤ x6 ∧ x6 < 112) <| jlt (up M7 10 x6 u10) fun M12 => h44 ((w32 (x6 + 1)), M12)) fun j71 => (if x6 < 81 then jchk (0 ≤ x6 ∧ x6 < 81) <| j71 ((M7 6 x6)) else j71 0) else jbv (m_begins N M7) fun M8 => jlt (up M8 0 26 0) fun M9 => some ((M9 10 1), M9))
def m_parish_L8 (N : Nat)  (h8 : (Int × jMem) → Option (Int × jMem)) : Int × jMem → Option (Int × jMem)
  | (x2, M3) => (if x2 < 81 then jchk (0 ≤ x2 ∧ x2 < 81) <| jlt (up M3 6 x2 0) fun M15 => h8 ((w32 (x2 + 1)), M15) else jb1 (m_readsAll N M3) fun r4 M5 => (if r4 = 0 then some ((w32 (((-2)) - ((M5 0 9)))), M5) else jfix N (m_parish_L44 N) (0, M5)))
def m_parish (N : Nat) (M : jMem) : Option (Int × jMem) := jlt (up M 0 11 6) fun M1 => jfix N (m_parish_L8 N) (0, M1)
theorem c_m_parish {l : Launch} {g : jG} (N : Nat) (M : jMem)  : ∀ o, m_parish N  M = some o → jCt l g jTM yX12_parish cX12_parish 2 (some .int) 0 25 [(2, 0)] M o := by
  refine jMet (own := RX12) (em := id) (L := [(0, 2, 0)]) (by decide +kernel) rfl (Nat.le_of_ble_eq_true rfl) rfl (fun K hR => ?_)
  unfold m_parish
  refine z_aload_n (pc := 0) hR 0 dX12_parish_0 rfl rfl ?_
  refine z_bipush (pc := 1) hR dX12_parish_1 rfl ?_
  refine z_puti (pc := 3) hR (j := 11) jp_RX12_155 kmo_0 (by decide) rfl rfl rfl rfl dX12_parish_3 (fun M1 => ?_)
  refine z_iconst (pc := 6) hR dX12_parish_6 rfl ?_
  refine z_istore_n (pc := 7) hR (lv' := [(1, 0, 0), (0, 2, 0)]) dX12_parish_7 rfl (by decide) rfl ?_
  refine z_pick (pc := 8) (lv' := [(0, 2, 0), (1, 0, 0)]) hR [1, 0] rfl ?_
  refine z_fix (σ := Int × jMem) (lv := fun s => [(0, 2, 0), (1, 0, s.1)]) (st := fun _ => []) (M := fun s => s.2) (fun h8 hh8 => ?_) N (0, M1)
  rintro ⟨x2, M3⟩
  show jZ K id 8 [(0, 2, 0), (1, 0, x2)] [] M3 _
  unfold m_parish_L8
  refine z_iload_n (pc := 8) hR 1 dX12_parish_8 rfl rfl ?_
  refine z_bipush (pc := 9) hR dX12_parish_9 rfl ?_
  refine z_icmpge (pc := 11) (tgt := 27) hR dX12_parish_11 (by decide) ?_ ?_
  · refine z_aload_n (pc := 27) hR 0 dX12_parish_27 rfl rfl ?_
    refine z_callv1 (pc := 28) hR (As := []) (st := []) jm_X12_readsAll jl_RX12_271 kmo_0 (by decide) rfl (by decide) (c_m_readsAll N M3) rfl (by decide) (by decide) rfl (Nat.le_of_ble_eq_true rfl) dX12_parish_28 (fun r4 M5 => ?_)
    refine z_ifne (pc := 31) (tgt := 42) hR dX12_parish_31 (by decide) ?_ ?_
    · refine z_iconst (pc := 42) hR dX12_parish_42 rfl ?_
      refine z_istore_n (pc := 43) hR (lv' := [(1, 0, 0), (0, 2, 0)]) dX12_parish_43 rfl (by decide) rfl ?_
      refine z_pick (pc := 44) (lv' := [(0, 2, 0), (1, 0, 0)]) hR [1, 0] rfl ?_
      refine z_fix (σ := Int × jMem) (lv := fun s => [(0, 2, 0), (1, 0, s.1)]) (st := fun _ => []) (M := fun s => s.2) (fun h44 hh44 => ?_) N (0, M5)
      rintro ⟨x6, M7⟩
      show jZ K id 44 [(0, 2, 0), (1, 0, x6)] [] M7 _
      unfold m_parish_L44
      refine z_iload_n (pc := 44) hR 1 dX12_parish_44 rfl rfl ?_
      refine z_bipush (pc := 45) hR dX12_parish_45 rfl ?_
      refine z_icmpge (pc := 47) (tgt := 78) hR dX12_parish_47 (by decide) ?_ ?_
      · refine z_aload_n (pc := 78) hR 0 dX12_parish_78 rfl rfl ?_
        refine z_callv0 (pc := 79) (rk' := 3) hR (As := []) (st := []) jm_X12_begins jl_RX12_274 kmo_0 (by decide) rfl (c_m_begins N M7) rfl (by decide) (by decide) rfl (Nat.le_of_ble_eq_true rfl) dX12_parish_79 (fun M8 => ?_)
        refine z_aload_n (pc := 82) hR 0 dX12_parish_82 rfl rfl ?_
        refine z_iconst (pc := 83) hR dX12_parish_83 rfl ?_
        refine z_puti (pc := 84) hR (j := 26) jp_RX12_277 kmo_0 (by decide) rfl rfl rfl rfl dX12_parish_84 (fun M9 => ?_)
        refine z_aload_n (pc := 87) hR 0 dX12_parish_87 rfl rfl ?_
        refine z_getr (pc := 88) hR (c0 := 10) (r := 10) jf_RX12_39 kmo_0 (by decide) rfl rfl dX12_parish_88 ?_
        refine z_iconst (pc := 91) hR dX12_parish_91 rfl ?_
        refine z_iald (pc := 92) hR (n := 112) kma_10 (by decide) (by decide) dX12_parish_92 ?_
        exact z_ireturn (pc := 93) hR rfl rfl dX12_parish_93 rfl
      · refine z_aload_n (pc := 50) hR 0 dX12_parish_50 rfl rfl ?_
        refine z_getr (pc := 51) hR (c0 := 10) (r := 10) jf_RX12_39 kmo_0 (by decide) rfl rfl dX12_parish_51 ?_
        refine z_iload_n (pc := 54) hR 1 dX12_parish_54 rfl rfl ?_
        refine z_iload_n (pc := 55) hR 1 dX12_parish_55 rfl rfl ?_
        refine z_bipush (pc := 56) hR dX12_parish_56 rfl ?_
        refine z_join (P := fun j => ∀ (u10 : Int), jZ K id 71 [(0, 2, 0), (1, 0, x6)] [(0, u10), (0, x6), (2, 10)] M7 (j u10)) (fun u10 => ?_) (fun j71 hj71 => ?_)
        · refine z_chk (fun hc11 => ?_)
          refine z_iast (pc := 71) hR (n := 112) kma_10 hc11.1 hc11.2 dX12_parish_71 (fun M12 => ?_)
          refine z_iinc (pc := 72) hR (j := 1) (lv' := [(1, 0, (w32 (x6 + 1))), (0, 2, 0)]) dX12_parish_72 rfl (by decide) rfl ?_
          refine z_goto (pc := 75) (tgt := 44) hR dX12_parish_75 (by decide) ?_
          refine z_pick (pc := 44) (lv' := [(0, 2, 0), (1, 0, (w32 (x6 + 1)))]) hR [1, 0] rfl ?_
          exact hh44 ((w32 (x6 + 1)), M12)
        refine z_icmpge (pc := 58) (tgt := 70) hR dX12_parish_58 (by decide) ?_ ?_
        · refine z_iconst (pc := 70) hR dX12_parish_70 rfl ?_
          exact hj71 0
        · refine z_aload_n (pc := 61) hR 0 dX12_parish_61 rfl rfl ?_
          refine z_getr (pc := 62) hR (c0 := 6) (r := 6) jf_RX12_26 kmo_0 (by decide) rfl rfl dX12_parish_62 ?_
          refine z_iload_n (pc := 65) hR 1 dX12_parish_65 rfl rfl ?_
          refine z_chk (fun hc13 => ?_)
          refine z_iald (pc := 66) hR (n := 81) kma_6 hc13.1 hc13.2 dX12_parish_66 ?_
          refine z_goto (pc := 67) (tgt := 71) hR dX12_parish_67 (by decide) ?_
          exact hj71 ((M7 6 x6))
    · refine z_bipush (pc := 34) hR dX12_parish_34 rfl ?_
      refine z_aload_n (pc := 36) hR 0 dX12_parish_36 rfl rfl ?_
      refine z_geti (pc := 37) hR (j := 9) jf_RX12_96 kmo_0 (by decide) rfl rfl dX12_parish_37 ?_
      refine z_isub (pc := 40) hR dX12_parish_40 ?_
      exact z_ireturn (pc := 41) hR rfl rfl dX12_parish_41 rfl
  · refine z_aload_n (pc := 14) hR 0 dX12_parish_14 rfl rfl ?_
    refine z_getr (pc := 15) hR (c0 := 6) (r := 6) jf_RX12_26 kmo_0 (by decide) rfl rfl dX12_parish_15 ?_
    refine z_iload_n (pc := 18) hR 1 dX12_parish_18 rfl rfl ?_
    refine z_iconst (pc := 19) hR dX12_parish_19 rfl ?_
    refine z_chk (fun hc14 => ?_)
    refine z_iast (pc := 20) hR (n := 81) kma_6 hc14.1 hc14.2 dX12_parish_20 (fun M15 => ?_)
    refine z_iinc (pc := 21) hR (j := 1) (lv' := [(1, 0, (w32 (x2 + 1))), (0, 2, 0)]) dX12_parish_21 rfl (by decide) rfl ?_
    refine z_goto (pc := 24) (tgt := 8) hR dX12_parish_24 (by decide) ?_
    refine z_pick (pc := 8) (lv' := [(0, 2, 0), (1, 0, (w32 (x2 + 1)))]) hR [1, 0] rfl ?_
    exact hh8 ((w32 (x2 + 1)), M15)
theorem dX12_isRule_0 : decode cX12_isRule 0 = .ok (.iload_n 1, 1) := by decide +kernel
theorem dX12_isRule_1 : decode cX12_isRule 1 = .ok (.ifCond .lt 15, 3) := by decide +kernel
theorem dX12_isRule_4 : decode cX12_isRule 4 = .ok (.iload_n 1, 1) := by decide +kernel
theorem dX12_isRule_5 : decode cX12_isRule 5 = .ok (.aload_n 0, 1) := by decide +kernel
theorem dX12_isRule_6 : decode cX12_isRule 6 = .ok (.getfield 268, 3) := by decide +kernel
theorem dX12_isRule_9 : decode cX12_isRule 9 = .ok (.if_icmp .ge 7, 3) := by decide +kernel
theorem dX12_isRule_12 : decode cX12_isRule 12 = .ok (.iconst 1, 1) := by decide +kernel
theorem dX12_isRule_13 : decode cX12_isRule 13 = .ok (.goto 4, 3) := by decide +kernel
theorem dX12_isRule_16 : decode cX12_isRule 16 = .ok (.iconst 0, 1) := by decide +kernel
theorem dX12_isRule_17 : decode cX12_isRule 17 = .ok (.ireturn, 1) := by decide +kernel
def m_isRule (N : Nat) (a1 : Int) (M : jMem) : Option Int := (if a1 < 0 then some 0 else (if a1 < (M 0 2) then some 1 else some 0))
theorem c_m_isRule {l : Launch} {g : jG} (N : Nat) (a1 : Int) (M : jMem)  : ∀ o, m_isRule N a1 M = some o → jCt l g jTM yX12_isRule cX12_isRule 2 (some .boolean) 0 1 [(2, 0), (0, a1)] M (o, M) := by
  refine jMet (own := RX12) (em := (fun r => (r, M))) (L := [(0, 2, 0), (1, 0, a1)]) (by decide +kernel) rfl (Nat.le_of_ble_eq_true rfl) rfl (fun K hR => ?_)
  unfold m_isRule
  refine z_iload_n (pc := 0) hR 1 dX12_isRule_0 rfl rfl ?_
  refine z_iflt (pc := 1) (tgt := 16) hR dX12_isRule_1 (by decide) ?_ ?_
  · refine z_iconst (pc := 16) hR dX12_isRule_16 rfl ?_
    exact z_zreturn (pc := 17) hR rfl rfl (Or.inl rfl) dX12_isRule_17 rfl
  · refine z_iload_n (pc := 4) hR 1 dX12_isRule_4 rfl rfl ?_
    refine z_aload_n (pc := 5) hR 0 dX12_isRule_5 rfl rfl ?_
    refine z_geti (pc := 6) hR (j := 2) jf_RX12_268 kmo_0 (by decide) rfl rfl dX12_isRule_6 ?_
    refine z_icmpge (pc := 9) (tgt := 16) hR dX12_isRule_9 (by decide) ?_ ?_
    · refine z_iconst (pc := 16) hR dX12_isRule_16 rfl ?_
      exact z_zreturn (pc := 17) hR rfl rfl (Or.inl rfl) dX12_isRule_17 rfl
    · refine z_iconst (pc := 12) hR dX12_isRule_12 rfl ?_
      refine z_goto (pc := 13) (tgt := 17) hR dX12_isRule_13 (by decide) ?_
      exact z_zreturn (pc := 17) hR rfl rfl (Or.inr rfl) dX12_isRule_17 rfl
theorem dX12_push_0 : decode cX12_push 0 = .ok (.aload_n 0, 1) := by decide +kernel
theorem dX12_push_1 : decode cX12_push 1 = .ok (.getfield 32, 3) := by decide +kernel
theorem dX12_push_4 : decode cX12_push 4 = .ok (.aload_n 0, 1) := by decide +kernel
theorem dX12_push_5 : decode cX12_push 5 = .ok (.getfield 280, 3) := by decide +kernel
theorem dX12_push_8 : decode cX12_push 8 = .ok (.lload_n 1, 1) := by decide +kernel
theorem dX12_push_9 : decode cX12_push 9 = .ok (.lastore, 1) := by decide +kernel
theorem dX12_push_10 : decode cX12_push 10 = .ok (.aload_n 0, 1) := by decide +kernel
theorem dX12_push_11 : decode cX12_push 11 = .ok (.dup, 1) := by decide +kernel
theorem dX12_push_12 : decode cX12_push 12 = .ok (.getfield 280, 3) := by decide +kernel
theorem dX12_push_15 : decode cX12_push 15 = .ok (.iconst 1, 1) := by decide +kernel
theorem dX12_push_16 : decode cX12_push 16 = .ok (.iadd, 1) := by decide +kernel
theorem dX12_push_17 : decode cX12_push 17 = .ok (.putfield 280, 3) := by decide +kernel
theorem dX12_push_20 : decode cX12_push 20 = .ok (.return_, 1) := by decide +kernel
def m_push (N : Nat) (a1 : Int) (M : jMem) : Option (Int × jMem) := jchk (0 ≤ (M 0 18) ∧ (M 0 18) < 64) <| jlt (up M 8 ((M 0 18)) a1) fun M2 => jlt (up M2 0 18 ((w32 (((M2 0 18)) + 1)))) fun M3 => some (0, M3)
theorem c_m_push {l : Launch} {g : jG} (N : Nat) (a1 : Int) (M : jMem)  : ∀ o, m_push N a1 M = some o → jCt l g jTM yX12_push cX12_push 3 none 3 1 [(2, 0), (1, a1)] M o := by
  refine jMet (own := RX12) (em := id) (L := [(0, 2, 0), (1, 1, a1)]) (by decide +kernel) rfl (Nat.le_of_ble_eq_true rfl) rfl (fun K hR => ?_)
  unfold m_push
  refine z_aload_n (pc := 0) hR 0 dX12_push_0 rfl rfl ?_
  refine z_getr (pc := 1) hR (c0 := 8) (r := 8) jf_RX12_32 kmo_0 (by decide) rfl rfl dX12_push_1 ?_
  refine z_aload_n (pc := 4) hR 0 dX12_push_4 rfl rfl ?_
  refine z_geti (pc := 5) hR (j := 18) jf_RX12_280 kmo_0 (by decide) rfl rfl dX12_push_5 ?_
  refine z_lload_n (pc := 8) hR 1 dX12_push_8 rfl rfl ?_
  refine z_chk (fun hc1 => ?_)
  refine z_last (pc := 9) hR (n := 64) kma_8 hc1.1 hc1.2 dX12_push_9 (fun M2 => ?_)
  refine z_aload_n (pc := 10) hR 0 dX12_push_10 rfl rfl ?_
  refine z_dup (pc := 11) hR dX12_push_11 (by decide) ?_
  refine z_geti (pc := 12) hR (j := 18) jf_RX12_280 kmo_0 (by decide) rfl rfl dX12_push_12 ?_
  refine z_iconst (pc := 15) hR dX12_push_15 rfl ?_
  refine z_iadd (pc := 16) hR dX12_push_16 ?_
  refine z_puti (pc := 17) hR (j := 18) jp_RX12_280 kmo_0 (by decide) rfl rfl rfl rfl dX12_push_17 (fun M3 => ?_)
  exact z_return (x := 0) (pc := 20) hR rfl rfl dX12_push_20 rfl
theorem dX12_pop_0 : decode cX12_pop 0 = .ok (.aload_n 0, 1) := by decide +kernel
theorem dX12_pop_1 : decode cX12_pop 1 = .ok (.dup, 1) := by decide +kernel
theorem dX12_pop_2 : decode cX12_pop 2 = .ok (.getfield 280, 3) := by decide +kernel
theorem dX12_pop_5 : decode cX12_pop 5 = .ok (.iconst 1, 1) := by decide +kernel
theorem dX12_pop_6 : decode cX12_pop 6 = .ok (.isub, 1) := by decide +kernel
theorem dX12_pop_7 : decode cX12_pop 7 = .ok (.putfield 280, 3) := by decide +kernel
theorem dX12_pop_10 : decode cX12_pop 10 = .ok (.aload_n 0, 1) := by decide +kernel
theorem dX12_pop_11 : decode cX12_pop 11 = .ok (.getfield 32, 3) := by decide +kernel
theorem dX12_pop_14 : decode cX12_pop 14 = .ok (.aload_n 0, 1) := by decide +kernel
theorem dX12_pop_15 : decode cX12_pop 15 = .ok (.getfield 280, 3) := by decide +kernel
theorem dX12_pop_18 : decode cX12_pop 18 = .ok (.laload, 1) := by decide +kernel
theorem dX12_pop_19 : decode cX12_pop 19 = .ok (.lreturn, 1) := by decide +kernel
def m_pop (N : Nat) (M : jMem) : Option (Int × jMem) := jlt (up M 0 18 ((w32 (((M 0 18)) - 1)))) fun M1 => jchk (0 ≤ (M1 0 18) ∧ (M1 0 18) < 64) <| some ((M1 8 ((M1 0 18))), M1)
theorem c_m_pop {l : Launch} {g : jG} (N : Nat) (M : jMem)  : ∀ o, m_pop N  M = some o → jCt l g jTM yX12_pop cX12_pop 1 (some .long) 1 1 [(2, 0)] M o := by
  refine jMet (own := RX12) (em := id) (L := [(0, 2, 0)]) (by decide +kernel) rfl (Nat.le_of_ble_eq_true rfl) rfl (fun K hR => ?_)
  unfold m_pop
  refine z_aload_n (pc := 0) hR 0 dX12_pop_0 rfl rfl ?_
  refine z_dup (pc := 1) hR dX12_pop_1 (by decide) ?_
  refine z_geti (pc := 2) hR (j := 18) jf_RX12_280 kmo_0 (by decide) rfl rfl dX12_pop_2 ?_
  refine z_iconst (pc := 5) hR dX12_pop_5 rfl ?_
  refine z_isub (pc := 6) hR dX12_pop_6 ?_
  refine z_puti (pc := 7) hR (j := 18) jp_RX12_280 kmo_0 (by decide) rfl rfl rfl rfl dX12_pop_7 (fun M1 => ?_)
  refine z_aload_n (pc := 10) hR 0 dX12_pop_10 rfl rfl ?_
  refine z_getr (pc := 11) hR (c0 := 8) (r := 8) jf_RX12_32 kmo_0 (by decide) rfl rfl dX12_pop_11 ?_
  refine z_aload_n (pc := 14) hR 0 dX12_pop_14 rfl rfl ?_
  refine z_geti (pc := 15) hR (j := 18) jf_RX12_280 kmo_0 (by decide) rfl rfl dX12_pop_15 ?_
  refine z_chk (fun hc2 => ?_)
  refine z_lald (pc := 18) hR (n := 64) kma_8 hc2.1 hc2.2 dX12_pop_18 ?_
  exact z_lreturn (pc := 19) hR rfl rfl dX12_pop_19 rfl
theorem dX12_one_0 : decode cX12_one 0 = .ok (.iload_n 0, 1) := by decide +kernel
theorem dX12_one_1 : decode cX12_one 1 = .ok (.tableswitch 171 2 14 #[67, 71, 75, 79, 107, 119, 131, 143, 155, 171, 167, 171, 93], 67) := by decide +kernel
theorem dX12_one_68 : decode cX12_one 68 = .ok (.lload_n 1, 1) := by decide +kernel
theorem dX12_one_69 : decode cX12_one 69 = .ok (.lload_n 3, 1) := by decide +kernel
theorem dX12_one_70 : decode cX12_one 70 = .ok (.ladd, 1) := by decide +kernel
theorem dX12_one_71 : decode cX12_one 71 = .ok (.lreturn, 1) := by decide +kernel
theorem dX12_one_72 : decode cX12_one 72 = .ok (.lload_n 1, 1) := by decide +kernel
theorem dX12_one_73 : decode cX12_one 73 = .ok (.lload_n 3, 1) := by decide +kernel
theorem dX12_one_74 : decode cX12_one 74 = .ok (.lsub, 1) := by decide +kernel
theorem dX12_one_75 : decode cX12_one 75 = .ok (.lreturn, 1) := by decide +kernel
theorem dX12_one_76 : decode cX12_one 76 = .ok (.lload_n 1, 1) := by decide +kernel
theorem dX12_one_77 : decode cX12_one 77 = .ok (.lload_n 3, 1) := by decide +kernel
theorem dX12_one_78 : decode cX12_one 78 = .ok (.lmul, 1) := by decide +kernel
theorem dX12_one_79 : decode cX12_one 79 = .ok (.lreturn, 1) := by decide +kernel
theorem dX12_one_80 : decode cX12_one 80 = .ok (.lload_n 3, 1) := by decide +kernel
theorem dX12_one_81 : decode cX12_one 81 = .ok (.lconst 0, 1) := by decide +kernel
theorem dX12_one_82 : decode cX12_one 82 = .ok (.lcmp, 1) := by decide +kernel
theorem dX12_one_83 : decode cX12_one 83 = .ok (.ifCond .ne 7, 3) := by decide +kernel
theorem dX12_one_86 : decode cX12_one 86 = .ok (.lconst 0, 1) := by decide +kernel
theorem dX12_one_87 : decode cX12_one 87 = .ok (.goto 6, 3) := by decide +kernel
theorem dX12_one_90 : decode cX12_one 90 = .ok (.lload_n 1, 1) := by decide +kernel
theorem dX12_one_91 : decode cX12_one 91 = .ok (.lload_n 3, 1) := by decide +kernel
theorem dX12_one_92 : decode cX12_one 92 = .ok (.ldiv, 1) := by decide +kernel
theorem dX12_one_93 : decode cX12_one 93 = .ok (.lreturn, 1) := by decide +kernel
theorem dX12_one_94 : decode cX12_one 94 = .ok (.lload_n 3, 1) := by decide +kernel
theorem dX12_one_95 : decode cX12_one 95 = .ok (.lconst 0, 1) := by decide +kernel
theorem dX12_one_96 : decode cX12_one 96 = .ok (.lcmp, 1) := by decide +kernel
theorem dX12_one_97 : decode cX12_one 97 = .ok (.ifCond .ne 7, 3) := by decide +kernel
theorem dX12_one_100 : decode cX12_one 100 = .ok (.lconst 0, 1) := by decide +kernel
theorem dX12_one_101 : decode cX12_one 101 = .ok (.goto 6, 3) := by decide +kernel
theorem dX12_one_104 : decode cX12_one 104 = .ok (.lload_n 1, 1) := by decide +kernel
theorem dX12_one_105 : decode cX12_one 105 = .ok (.lload_n 3, 1) := by decide +kernel
theorem dX12_one_106 : decode cX12_one 106 = .ok (.lrem, 1) := by decide +kernel
theorem dX12_one_107 : decode cX12_one 107 = .ok (.lreturn, 1) := by decide +kernel
theorem dX12_one_108 : decode cX12_one 108 = .ok (.lload_n 1, 1) := by decide +kernel
theorem dX12_one_109 : decode cX12_one 109 = .ok (.lload_n 3, 1) := by decide +kernel
theorem dX12_one_110 : decode cX12_one 110 = .ok (.lcmp, 1) := by decide +kernel
theorem dX12_one_111 : decode cX12_one 111 = .ok (.ifCond .ge 7, 3) := by decide +kernel
theorem dX12_one_114 : decode cX12_one 114 = .ok (.lconst 1, 1) := by decide +kernel
theorem dX12_one_115 : decode cX12_one 115 = .ok (.goto 4, 3) := by decide +kernel
theorem dX12_one_118 : decode cX12_one 118 = .ok (.lconst 0, 1) := by decide +kernel
theorem dX12_one_119 : decode cX12_one 119 = .ok (.lreturn, 1) := by decide +kernel
theorem dX12_one_120 : decode cX12_one 120 = .ok (.lload_n 1, 1) := by decide +kernel
theorem dX12_one_121 : decode cX12_one 121 = .ok (.lload_n 3, 1) := by decide +kernel
theorem dX12_one_122 : decode cX12_one 122 = .ok (.lcmp, 1) := by decide +kernel
theorem dX12_one_123 : decode cX12_one 123 = .ok (.ifCond .gt 7, 3) := by decide +kernel
theorem dX12_one_126 : decode cX12_one 126 = .ok (.lconst 1, 1) := by decide +kernel
theorem dX12_one_127 : decode cX12_one 127 = .ok (.goto 4, 3) := by decide +kernel
theorem dX12_one_130 : decode cX12_one 130 = .ok (.lconst 0, 1) := by decide +kernel
theorem dX12_one_131 : decode cX12_one 131 = .ok (.lreturn, 1) := by decide +kernel
theorem dX12_one_132 : decode cX12_one 132 = .ok (.lload_n 1, 1) := by decide +kernel
theorem dX12_one_133 : decode cX12_one 133 = .ok (.lload_n 3, 1) := by decide +kernel
theorem dX12_one_134 : decode cX12_one 134 = .ok (.lcmp, 1) := by decide +kernel
theorem dX12_one_135 : decode cX12_one 135 = .ok (.ifCond .ne 7, 3) := by decide +kernel
theorem dX12_one_138 : decode cX12_one 138 = .ok (.lconst 1, 1) := by decide +kernel
theorem dX12_one_139 : decode cX12_one 139 = .ok (.goto 4, 3) := by decide +kernel
theorem dX12_one_142 : decode cX12_one 142 = .ok (.lconst 0, 1) := by decide +kernel
theorem dX12_one_143 : decode cX12_one 143 = .ok (.lreturn, 1) := by decide +kernel
theorem dX12_one_144 : decode cX12_one 144 = .ok (.lload_n 1, 1) := by decide +kernel
theorem dX12_one_145 : decode cX12_one 145 = .ok (.lload_n 3, 1) := by decide +kernel
theorem dX12_one_146 : decode cX12_one 146 = .ok (.lcmp, 1) := by decide +kernel
theorem dX12_one_147 : decode cX12_one 147 = .ok (.ifCond .lt 7, 3) := by decide +kernel
theorem dX12_one_150 : decode cX12_one 150 = .ok (.lconst 1, 1) := by decide +kernel
theorem dX12_one_151 : decode cX12_one 151 = .ok (.goto 4, 3) := by decide +kernel
theorem dX12_one_154 : decode cX12_one 154 = .ok (.lconst 0, 1) := by decide +kernel
theorem dX12_one_155 : decode cX12_one 155 = .ok (.lreturn, 1) := by decide +kernel
theorem dX12_one_156 : decode cX12_one 156 = .ok (.lload_n 1, 1) := by decide +kernel
theorem dX12_one_157 : decode cX12_one 157 = .ok (.lload_n 3, 1) := by decide +kernel
theorem dX12_one_158 : decode cX12_one 158 = .ok (.lcmp, 1) := by decide +kernel
theorem dX12_one_159 : decode cX12_one 159 = .ok (.ifCond .le 7, 3) := by decide +kernel
theorem dX12_one_162 : decode cX12_one 162 = .ok (.lconst 1, 1) := by decide +kernel
theorem dX12_one_163 : decode cX12_one 163 = .ok (.goto 4, 3) := by decide +kernel
theorem dX12_one_166 : decode cX12_one 166 = .ok (.lconst 0, 1) := by decide +kernel
theorem dX12_one_167 : decode cX12_one 167 = .ok (.lreturn, 1) := by decide +kernel
theorem dX12_one_168 : decode cX12_one 168 = .ok (.lload_n 1, 1) := by decide +kernel
theorem dX12_one_169 : decode cX12_one 169 = .ok (.lload_n 3, 1) := by decide +kernel
theorem dX12_one_170 : decode cX12_one 170 = .ok (.land, 1) := by decide +kernel
theorem dX12_one_171 : decode cX12_one 171 = .ok (.lreturn, 1) := by decide +kernel
theorem dX12_one_172 : decode cX12_one 172 = .ok (.lload_n 1, 1) := by decide +kernel
theorem dX12_one_173 : decode cX12_one 173 = .ok (.lload_n 3, 1) := by decide +kernel
theorem dX12_one_174 : decode cX12_one 174 = .ok (.lor, 1) := by decide +kernel
theorem dX12_one_175 : decode cX12_one 175 = .ok (.lreturn, 1) := by decide +kernel
def m_one (N : Nat) (a0 a1 a3 : Int) (M : jMem) : Option Int := (if a0 = 2 then some ((w64 (a1 + a3))) else (if a0 = 3 then some ((w64 (a1 - a3))) else (if a0 = 4 then some ((w64 (a1 * a3))) else (if a0 = 5 then (if (jcmp a3 0) = 0 then some 0 else jchk (a3 ≠ 0) <| some ((w64 (a1.tdiv a3)))) else (if a0 = 6 then (if (jcmp a1 a3) < 0 then some 1 else some 0) else (if a0 = 7 then (if 0 < (jcmp a1 a3) then some 0 else some 1) else (if a0 = 8 then (if (jcmp a1 a3) = 0 then some 1 else some 0) else (if a0 = 9 then (if (jcmp a1 a3) < 0 then some 0 else some 1) else (if a0 = 10 then (if 0 < (jcmp a1 a3) then some 1 else some 0) else (if a0 = 11 then some ((jlor a1 a3)) else (if a0 = 12 then some ((jlan a1 a3)) else (if a0 = 13 then some ((jlor a1 a3)) else (if a0 = 14 then (if (jcmp a3 0) = 0 then some 0 else jchk (a3 ≠ 0) <| some ((a1.tmod a3))) else some ((jlor a1 a3)))))))))))))))
theorem c_m_one {l : Launch} {g : jG} (N : Nat) (a0 a1 a3 : Int) (M : jMem)  : ∀ o, m_one N a0 a1 a3 M = some o → jCt l g jTM yX12_one cX12_one 5 (some .long) 1 1 [(0, a0), (1, a1), (1, a3)] M (o, M) := by
  refine jMet (own := RX12) (em := (fun r => (r, M))) (L := [(0, 0, a0), (1, 1, a1), (3, 1, a3)]) (by decide +kernel) rfl (Nat.le_of_ble_eq_true rfl) rfl (fun K hR => ?_)
  unfold m_one
  refine z_iload_n (pc := 0) hR 0 dX12_one_0 rfl rfl ?_
  refine z_tsw (pc := 1) (tgt := 68) (j := 0) (y := 2) hR dX12_one_1 rfl rfl (by decide) (by decide) ?_ (fun hs1 => ?_)
  · refine z_lload_n (pc := 68) hR 1 dX12_one_68 rfl rfl ?_
    refine z_lload_n (pc := 69) hR 2 dX12_one_69 rfl rfl ?_
    refine z_ladd (pc := 70) hR dX12_one_70 ?_
    exact z_lreturn (pc := 71) hR rfl rfl dX12_one_71 rfl
  refine z_tsw (pc := 1) (tgt := 72) (j := 1) (y := 3) hR dX12_one_1 rfl rfl (by decide) (by decide) ?_ (fun hs2 => ?_)
  · refine z_lload_n (pc := 72) hR 1 dX12_one_72 rfl rfl ?_
    refine z_lload_n (pc := 73) hR 2 dX12_one_73 rfl rfl ?_
    refine z_lsub (pc := 74) hR dX12_one_74 ?_
    exact z_lreturn (pc := 75) hR rfl rfl dX12_one_75 rfl
  refine z_tsw (pc := 1) (tgt := 76) (j := 2) (y := 4) hR dX12_one_1 rfl rfl (by decide) (by decide) ?_ (fun hs3 => ?_)
  · refine z_lload_n (pc := 76) hR 1 dX12_one_76 rfl rfl ?_
    refine z_lload_n (pc := 77) hR 2 dX12_one_77 rfl rfl ?_
    refine z_lmul (pc := 78) hR dX12_one_78 ?_
    exact z_lreturn (pc := 79) hR rfl rfl dX12_one_79 rfl
  refine z_tsw (pc := 1) (tgt := 80) (j := 3) (y := 5) hR dX12_one_1 rfl rfl (by decide) (by decide) ?_ (fun hs4 => ?_)
  · refine z_lload_n (pc := 80) hR 2 dX12_one_80 rfl rfl ?_
    refine z_lconst (pc := 81) hR (x := 0) dX12_one_81 rfl ?_
    refine z_lcmp (pc := 82) hR dX12_one_82 ?_
    refine z_ifne (pc := 83) (tgt := 90) hR dX12_one_83 (by decide) ?_ ?_
    · refine z_lload_n (pc := 90) hR 1 dX12_one_90 rfl rfl ?_
      refine z_lload_n (pc := 91) hR 2 dX12_one_91 rfl rfl ?_
      refine z_chk (fun hc5 => ?_)
      refine z_ldiv (pc := 92) hR dX12_one_92 hc5 ?_
      exact z_lreturn (pc := 93) hR rfl rfl dX12_one_93 rfl
    · refine z_lconst (pc := 86) hR (x := 0) dX12_one_86 rfl ?_
      refine z_goto (pc := 87) (tgt := 93) hR dX12_one_87 (by decide) ?_
      exact z_lreturn (pc := 93) hR rfl rfl dX12_one_93 rfl
  refine z_tsw (pc := 1) (tgt := 108) (j := 4) (y := 6) hR dX12_one_1 rfl rfl (by decide) (by decide) ?_ (fun hs6 => ?_)
  · refine z_lload_n (pc := 108) hR 1 dX12_one_108 rfl rfl ?_
    refine z_lload_n (pc := 109) hR 2 dX12_one_109 rfl rfl ?_
    refine z_lcmp (pc := 110) hR dX12_one_110 ?_
    refine z_ifge (pc := 111) (tgt := 118) hR dX12_one_111 (by decide) ?_ ?_
    · refine z_lconst (pc := 118) hR (x := 0) dX12_one_118 rfl ?_
      exact z_lreturn (pc := 119) hR rfl rfl dX12_one_119 rfl
    · refine z_lconst (pc := 114) hR (x := 1) dX12_one_114 rfl ?_
      refine z_goto (pc := 115) (tgt := 119) hR dX12_one_115 (by decide) ?_
      exact z_lreturn (pc := 119) hR rfl rfl dX12_one_119 rfl
  refine z_tsw (pc := 1) (tgt := 120) (j := 5) (y := 7) hR dX12_one_1 rfl rfl (by decide) (by decide) ?_ (fun hs7 => ?_)
  · refine z_lload_n (pc := 120) hR 1 dX12_one_120 rfl rfl ?_
    refine z_lload_n (pc := 121) hR 2 dX12_one_121 rfl rfl ?_
    refine z_lcmp (pc := 122) hR dX12_one_122 ?_
    refine z_ifgt (pc := 123) (tgt := 130) hR dX12_one_123 (by decide) ?_ ?_
    · refine z_lconst (pc := 130) hR (x := 0) dX12_one_130 rfl ?_
      exact z_lreturn (pc := 131) hR rfl rfl dX12_one_131 rfl
    · refine z_lconst (pc := 126) hR (x := 1) dX12_one_126 rfl ?_
      refine z_goto (pc := 127) (tgt := 131) hR dX12_one_127 (by decide) ?_
      exact z_lreturn (pc := 131) hR rfl rfl dX12_one_131 rfl
  refine z_tsw (pc := 1) (tgt := 132) (j := 6) (y := 8) hR dX12_one_1 rfl rfl (by decide) (by decide) ?_ (fun hs8 => ?_)
  · refine z_lload_n (pc := 132) hR 1 dX12_one_132 rfl rfl ?_
    refine z_lload_n (pc := 133) hR 2 dX12_one_133 rfl rfl ?_
    refine z_lcmp (pc := 134) hR dX12_one_134 ?_
    refine z_ifne (pc := 135) (tgt := 142) hR dX12_one_135 (by decide) ?_ ?_
    · refine z_lconst (pc := 142) hR (x := 0) dX12_one_142 rfl ?_
      exact z_lreturn (pc := 143) hR rfl rfl dX12_one_143 rfl
    · refine z_lconst (pc := 138) hR (x := 1) dX12_one_138 rfl ?_
      refine z_goto (pc := 139) (tgt := 143) hR dX12_one_139 (by decide) ?_
      exact z_lreturn (pc := 143) hR rfl rfl dX12_one_143 rfl
  refine z_tsw (pc := 1) (tgt := 144) (j := 7) (y := 9) hR dX12_one_1 rfl rfl (by decide) (by decide) ?_ (fun hs9 => ?_)
  · refine z_lload_n (pc := 144) hR 1 dX12_one_144 rfl rfl ?_
    refine z_lload_n (pc := 145) hR 2 dX12_one_145 rfl rfl ?_
    refine z_lcmp (pc := 146) hR dX12_one_146 ?_
    refine z_iflt (pc := 147) (tgt := 154) hR dX12_one_147 (by decide) ?_ ?_
    · refine z_lconst (pc := 154) hR (x := 0) dX12_one_154 rfl ?_
      exact z_lreturn (pc := 155) hR rfl rfl dX12_one_155 rfl
    · refine z_lconst (pc := 150) hR (x := 1) dX12_one_150 rfl ?_
      refine z_goto (pc := 151) (tgt := 155) hR dX12_one_151 (by decide) ?_
      exact z_lreturn (pc := 155) hR rfl rfl dX12_one_155 rfl
  refine z_tsw (pc := 1) (tgt := 156) (j := 8) (y := 10) hR dX12_one_1 rfl rfl (by decide) (by decide) ?_ (fun hs10 => ?_)
  · refine z_lload_n (pc := 156) hR 1 dX12_one_156 rfl rfl ?_
    refine z_lload_n (pc := 157) hR 2 dX12_one_157 rfl rfl ?_
    refine z_lcmp (pc := 158) hR dX12_one_158 ?_
    refine z_ifle (pc := 159) (tgt := 166) hR dX12_one_159 (by decide) ?_ ?_
    · refine z_lconst (pc := 166) hR (x := 0) dX12_one_166 rfl ?_
      exact z_lreturn (pc := 167) hR rfl rfl dX12_one_167 rfl
    · refine z_lconst (pc := 162) hR (x := 1) dX12_one_162 rfl ?_
      refine z_goto (pc := 163) (tgt := 167) hR dX12_one_163 (by decide) ?_
      exact z_lreturn (pc := 167) hR rfl rfl dX12_one_167 rfl
  refine z_tsw (pc := 1) (tgt := 172) (j := 9) (y := 11) hR dX12_one_1 rfl rfl (by decide) (by decide) ?_ (fun hs11 => ?_)
  · refine z_lload_n (pc := 172) hR 1 dX12_one_172 rfl rfl ?_
    refine z_lload_n (pc := 173) hR 2 dX12_one_173 rfl rfl ?_
    refine z_lor (pc := 174) hR dX12_one_174 ?_
    exact z_lreturn (pc := 175) hR rfl rfl dX12_one_175 rfl
  refine z_tsw (pc := 1) (tgt := 168) (j := 10) (y := 12) hR dX12_one_1 rfl rfl (by decide) (by decide) ?_ (fun hs12 => ?_)
  · refine z_lload_n (pc := 168) hR 1 dX12_one_168 rfl rfl ?_
    refine z_lload_n (pc := 169) hR 2 dX12_one_169 rfl rfl ?_
    refine z_land (pc := 170) hR dX12_one_170 ?_
    exact z_lreturn (pc := 171) hR rfl rfl dX12_one_171 rfl
  refine z_tsw (pc := 1) (tgt := 172) (j := 11) (y := 13) hR dX12_one_1 rfl rfl (by decide) (by decide) ?_ (fun hs13 => ?_)
  · refine z_lload_n (pc := 172) hR 1 dX12_one_172 rfl rfl ?_
    refine z_lload_n (pc := 173) hR 2 dX12_one_173 rfl rfl ?_
    refine z_lor (pc := 174) hR dX12_one_174 ?_
    exact z_lreturn (pc := 175) hR rfl rfl dX12_one_175 rfl
  refine z_tsw (pc := 1) (tgt := 94) (j := 12) (y := 14) hR dX12_one_1 rfl rfl (by decide) (by decide) ?_ (fun hs14 => ?_)
  · refine z_lload_n (pc := 94) hR 2 dX12_one_94 rfl rfl ?_
    refine z_lconst (pc := 95) hR (x := 0) dX12_one_95 rfl ?_
    refine z_lcmp (pc := 96) hR dX12_one_96 ?_
    refine z_ifne (pc := 97) (tgt := 104) hR dX12_one_97 (by decide) ?_ ?_
    · refine z_lload_n (pc := 104) hR 1 dX12_one_104 rfl rfl ?_
      refine z_lload_n (pc := 105) hR 2 dX12_one_105 rfl rfl ?_
      refine z_chk (fun hc15 => ?_)
      refine z_lrem (pc := 106) hR dX12_one_106 hc15 ?_
      exact z_lreturn (pc := 107) hR rfl rfl dX12_one_107 rfl
    · refine z_lconst (pc := 100) hR (x := 0) dX12_one_100 rfl ?_
      refine z_goto (pc := 101) (tgt := 107) hR dX12_one_101 (by decide) ?_
      exact z_lreturn (pc := 107) hR rfl rfl dX12_one_107 rfl
  refine z_tswd (pc := 1) (tgt := 172) hR dX12_one_1 (by omega) (by decide) ?_
  refine z_lload_n (pc := 172) hR 1 dX12_one_172 rfl rfl ?_
  refine z_lload_n (pc := 173) hR 2 dX12_one_173 rfl rfl ?_
  refine z_lor (pc := 174) hR dX12_one_174 ?_
  exact z_lreturn (pc := 175) hR rfl rfl dX12_one_175 rfl
theorem dX12_reckons_0 : decode cX12_reckons 0 = .ok (.aload_n 0, 1) := by decide +kernel
theorem dX12_reckons_1 : decode cX12_reckons 1 = .ok (.iconst 0, 1) := by decide +kernel
theorem dX12_reckons_2 : decode cX12_reckons 2 = .ok (.putfield 280, 3) := by decide +kernel
theorem dX12_reckons_5 : decode cX12_reckons 5 = .ok (.iload_n 2, 1) := by decide +kernel
theorem dX12_reckons_6 : decode cX12_reckons 6 = .ok (.istore 4, 2) := by decide +kernel
theorem dX12_reckons_8 : decode cX12_reckons 8 = .ok (.iload 4, 2) := by decide +kernel
theorem dX12_reckons_10 : decode cX12_reckons 10 = .ok (.iload_n 3, 1) := by decide +kernel
theorem dX12_reckons_11 : decode cX12_reckons 11 = .ok (.if_icmp .ge 124, 3) := by decide +kernel
theorem dX12_reckons_14 : decode cX12_reckons 14 = .ok (.aload_n 0, 1) := by decide +kernel
theorem dX12_reckons_15 : decode cX12_reckons 15 = .ok (.getfield 13, 3) := by decide +kernel
theorem dX12_reckons_18 : decode cX12_reckons 18 = .ok (.sipush 400, 3) := by decide +kernel
theorem dX12_reckons_21 : decode cX12_reckons 21 = .ok (.iload_n 1, 1) := by decide +kernel
theorem dX12_reckons_22 : decode cX12_reckons 22 = .ok (.imul, 1) := by decide +kernel
theorem dX12_reckons_23 : decode cX12_reckons 23 = .ok (.iload 4, 2) := by decide +kernel
theorem dX12_reckons_25 : decode cX12_reckons 25 = .ok (.iadd, 1) := by decide +kernel
theorem dX12_reckons_26 : decode cX12_reckons 26 = .ok (.iaload, 1) := by decide +kernel
theorem dX12_reckons_27 : decode cX12_reckons 27 = .ok (.bipush 15, 2) := by decide +kernel
theorem dX12_reckons_29 : decode cX12_reckons 29 = .ok (.iand, 1) := by decide +kernel
theorem dX12_reckons_30 : decode cX12_reckons 30 = .ok (.istore 5, 2) := by decide +kernel
theorem dX12_reckons_32 : decode cX12_reckons 32 = .ok (.aload_n 0, 1) := by decide +kernel
theorem dX12_reckons_33 : decode cX12_reckons 33 = .ok (.getfield 13, 3) := by decide +kernel
theorem dX12_reckons_36 : decode cX12_reckons 36 = .ok (.sipush 400, 3) := by decide +kernel
theorem dX12_reckons_39 : decode cX12_reckons 39 = .ok (.iload_n 1, 1) := by decide +kernel
theorem dX12_reckons_40 : decode cX12_reckons 40 = .ok (.imul, 1) := by decide +kernel
theorem dX12_reckons_41 : decode cX12_reckons 41 = .ok (.iload 4, 2) := by decide +kernel
theorem dX12_reckons_43 : decode cX12_reckons 43 = .ok (.iadd, 1) := by decide +kernel
theorem dX12_reckons_44 : decode cX12_reckons 44 = .ok (.iaload, 1) := by decide +kernel
theorem dX12_reckons_45 : decode cX12_reckons 45 = .ok (.iconst 4, 1) := by decide +kernel
theorem dX12_reckons_46 : decode cX12_reckons 46 = .ok (.ishr, 1) := by decide +kernel
theorem dX12_reckons_47 : decode cX12_reckons 47 = .ok (.istore 6, 2) := by decide +kernel
theorem dX12_reckons_49 : decode cX12_reckons 49 = .ok (.iload 5, 2) := by decide +kernel
theorem dX12_reckons_51 : decode cX12_reckons 51 = .ok (.ifCond .ne 13, 3) := by decide +kernel
theorem dX12_reckons_54 : decode cX12_reckons 54 = .ok (.aload_n 0, 1) := by decide +kernel
theorem dX12_reckons_55 : decode cX12_reckons 55 = .ok (.iload 6, 2) := by decide +kernel
theorem dX12_reckons_57 : decode cX12_reckons 57 = .ok (.i2l, 1) := by decide +kernel
theorem dX12_reckons_58 : decode cX12_reckons 58 = .ok (.invokevirtual 283, 3) := by decide +kernel
theorem dX12_reckons_61 : decode cX12_reckons 61 = .ok (.goto 68, 3) := by decide +kernel
theorem dX12_reckons_64 : decode cX12_reckons 64 = .ok (.iload 5, 2) := by decide +kernel
theorem dX12_reckons_66 : decode cX12_reckons 66 = .ok (.iconst 1, 1) := by decide +kernel
theorem dX12_reckons_67 : decode cX12_reckons 67 = .ok (.if_icmp .ne 17, 3) := by decide +kernel
theorem dX12_reckons_70 : decode cX12_reckons 70 = .ok (.aload_n 0, 1) := by decide +kernel
theorem dX12_reckons_71 : decode cX12_reckons 71 = .ok (.aload_n 0, 1) := by decide +kernel
theorem dX12_reckons_72 : decode cX12_reckons 72 = .ok (.getfield 36, 3) := by decide +kernel
theorem dX12_reckons_75 : decode cX12_reckons 75 = .ok (.iload 6, 2) := by decide +kernel
theorem dX12_reckons_77 : decode cX12_reckons 77 = .ok (.laload, 1) := by decide +kernel
theorem dX12_reckons_78 : decode cX12_reckons 78 = .ok (.invokevirtual 283, 3) := by decide +kernel
theorem dX12_reckons_81 : decode cX12_reckons 81 = .ok (.goto 48, 3) := by decide +kernel
theorem dX12_reckons_84 : decode cX12_reckons 84 = .ok (.iload 5, 2) := by decide +kernel
theorem dX12_reckons_86 : decode cX12_reckons 86 = .ok (.bipush 11, 2) := by decide +kernel
theorem dX12_reckons_88 : decode cX12_reckons 88 = .ok (.if_icmp .ne 16, 3) := by decide +kernel
theorem dX12_reckons_91 : decode cX12_reckons 91 = .ok (.aload_n 0, 1) := by decide +kernel
theorem dX12_reckons_92 : decode cX12_reckons 92 = .ok (.lconst 1, 1) := by decide +kernel
theorem dX12_reckons_93 : decode cX12_reckons 93 = .ok (.aload_n 0, 1) := by decide +kernel
theorem dX12_reckons_94 : decode cX12_reckons 94 = .ok (.invokevirtual 287, 3) := by decide +kernel
theorem dX12_reckons_97 : decode cX12_reckons 97 = .ok (.lsub, 1) := by decide +kernel
theorem dX12_reckons_98 : decode cX12_reckons 98 = .ok (.invokevirtual 283, 3) := by decide +kernel
theorem dX12_reckons_101 : decode cX12_reckons 101 = .ok (.goto 28, 3) := by decide +kernel
theorem dX12_reckons_104 : decode cX12_reckons 104 = .ok (.aload_n 0, 1) := by decide +kernel
theorem dX12_reckons_105 : decode cX12_reckons 105 = .ok (.invokevirtual 287, 3) := by decide +kernel
theorem dX12_reckons_108 : decode cX12_reckons 108 = .ok (.lstore 7, 2) := by decide +kernel
theorem dX12_reckons_110 : decode cX12_reckons 110 = .ok (.aload_n 0, 1) := by decide +kernel
theorem dX12_reckons_111 : decode cX12_reckons 111 = .ok (.invokevirtual 287, 3) := by decide +kernel
theorem dX12_reckons_114 : decode cX12_reckons 114 = .ok (.lstore 9, 2) := by decide +kernel
theorem dX12_reckons_116 : decode cX12_reckons 116 = .ok (.aload_n 0, 1) := by decide +kernel
theorem dX12_reckons_117 : decode cX12_reckons 117 = .ok (.iload 5, 2) := by decide +kernel
theorem dX12_reckons_119 : decode cX12_reckons 119 = .ok (.lload 9, 2) := by decide +kernel
theorem dX12_reckons_121 : decode cX12_reckons 121 = .ok (.lload 7, 2) := by decide +kernel
theorem dX12_reckons_123 : decode cX12_reckons 123 = .ok (.invokestatic 291, 3) := by decide +kernel
theorem dX12_reckons_126 : decode cX12_reckons 126 = .ok (.invokevirtual 283, 3) := by decide +kernel
theorem dX12_reckons_129 : decode cX12_reckons 129 = .ok (.iinc 4 1, 3) := by decide +kernel
theorem dX12_reckons_132 : decode cX12_reckons 132 = .ok (.goto (-124), 3) := by decide +kernel
theorem dX12_reckons_135 : decode cX12_reckons 135 = .ok (.aload_n 0, 1) := by decide +kernel
theorem dX12_reckons_136 : decode cX12_reckons 136 = .ok (.invokevirtual 287, 3) := by decide +kernel
theorem dX12_reckons_139 : decode cX12_reckons 139 = .ok (.lreturn, 1) := by decide +kernel
def m_reckons_L8 (N : Nat) (a1 : Int) (a3 : Int) (h8 : (Int × jMem) → Option (Int × jMem)) : Int × jMem → Option (Int × jMem)
  | (x2, M3) => (if x2 < a3 then jchk (0 ≤ (w32 (((w32 (400 * a1))) + x2)) ∧ (w32 (((w32 (400 * a1))) + x2)) < 2400) <| jlt ((jand ((M3 2 ((w32 (((w32 (400 * a1))) + x2))))) 15)) fun v7 => jchk (0 ≤ (w32 (((w32 (400 * a1))) + x2)) ∧ (w32 (((w32 (400 * a1))) + x2)) < 2400) <| jlt ((jshr ((M3 2 ((w32 (((w32 (400 * a1))) + x2))))) 4)) fun v9 => (if v7 = 0 then jbv (m_push N v9 M3) fun M21 => h8 ((w32 (x2 + 1)), M21) else (if v7 = 1 then jchk (0 ≤ v9 ∧ v9 < 12) <| jbv (m_push N ((M3 9 v9)) M3) fun M20 => h8 ((w32 (x2 + 1)), M20) else (if v7 = 11 then jb1 (m_pop N M3) fun r16 M17 => jbv (m_push N ((w64 (1 - r16))) M17) fun M18 => h8 ((w32 (x2 + 1)), M18) else jb1 (m_pop N M3) fun r10 M11 => jb1 (m_pop N M11) fun r12 M13 => (m_one N v7 r12 r10 M13).bind fun r14 => jbv (m_push N r14 M13) fun M15 => h8 ((w32 (x2 + 1)), M15)))) else jb1 (m_pop N M3) fun r4 M5 => some (r4, M5))
def m_reckons (N : Nat) (a1 a2 a3 : Int) (M : jMem) : Option (Int × jMem) := jlt (up M 0 18 0) fun M1 => jfix N (m_reckons_L8 N a1 a3) (a2, M1)
theorem c_m_reckons {l : Launch} {g : jG} (N : Nat) (a1 a2 a3 : Int) (M : jMem)  : ∀ o, m_reckons N a1 a2 a3 M = some o → jCt l g jTM yX12_reckons cX12_reckons 11 (some .long) 1 3 [(2, 0), (0, a1), (0, a2), (0, a3)] M o := by
  refine jMet (own := RX12) (em := id) (L := [(0, 2, 0), (1, 0, a1), (2, 0, a2), (3, 0, a3)]) (by decide +kernel) rfl (Nat.le_of_ble_eq_true rfl) rfl (fun K hR => ?_)
  unfold m_reckons
  refine z_aload_n (pc := 0) hR 0 dX12_reckons_0 rfl rfl ?_
  refine z_iconst (pc := 1) hR dX12_reckons_1 rfl ?_
  refine z_puti (pc := 2) hR (j := 18) jp_RX12_280 kmo_0 (by decide) rfl rfl rfl rfl dX12_reckons_2 (fun M1 => ?_)
  refine z_iload_n (pc := 5) hR 2 dX12_reckons_5 rfl rfl ?_
  refine z_istore (pc := 6) hR (lv' := [(4, 0, a2), (0, 2, 0), (1, 0, a1), (2, 0, a2), (3, 0, a3)]) dX12_reckons_6 (by decide) rfl ?_
  refine z_pick (pc := 8) (lv' := [(0, 2, 0), (1, 0, a1), (3, 0, a3), (4, 0, a2)]) hR [1, 2, 4, 0] rfl ?_
  refine z_fix (σ := Int × jMem) (lv := fun s => [(0, 2, 0), (1, 0, a1), (3, 0, a3), (4, 0, s.1)]) (st := fun _ => []) (M := fun s => s.2) (fun h8 hh8 => ?_) N (a2, M1)
  rintro ⟨x2, M3⟩
  show jZ K id 8 [(0, 2, 0), (1, 0, a1), (3, 0, a3), (4, 0, x2)] [] M3 _
  unfold m_reckons_L8
  refine z_iload (pc := 8) hR 3 dX12_reckons_8 rfl ?_
  refine z_iload_n (pc := 10) hR 2 dX12_reckons_10 rfl rfl ?_
  refine z_icmpge (pc := 11) (tgt := 135) hR dX12_reckons_11 (by decide) ?_ ?_
  · refine z_aload_n (pc := 135) hR 0 dX12_reckons_135 rfl rfl ?_
    refine z_callv1 (pc := 136) hR (As := []) (st := []) jm_X12_pop jl_RX12_287 kmo_0 (by decide) rfl (by decide) (c_m_pop N M3) rfl (by decide) (by decide) rfl (Nat.le_of_ble_eq_true rfl) dX12_reckons_136 (fun r4 M5 => ?_)
    exact z_lreturn (pc := 139) hR rfl rfl dX12_reckons_139 rfl
  · refine z_aload_n (pc := 14) hR 0 dX12_reckons_14 rfl rfl ?_
    refine z_getr (pc := 15) hR (c0 := 2) (r := 2) jf_RX12_13 kmo_0 (by decide) rfl rfl dX12_reckons_15 ?_
    refine z_sipush (pc := 18) hR dX12_reckons_18 rfl ?_
    refine z_iload_n (pc := 21) hR 1 dX12_reckons_21 rfl rfl ?_
    refine z_imul (pc := 22) hR dX12_reckons_22 ?_
    refine z_iload (pc := 23) hR 3 dX12_reckons_23 rfl ?_
    refine z_iadd (pc := 25) hR dX12_reckons_25 ?_
    refine z_chk (fun hc6 => ?_)
    refine z_iald (pc := 26) hR (n := 2400) kma_2 hc6.1 hc6.2 dX12_reckons_26 ?_
    refine z_bipush (pc := 27) hR dX12_reckons_27 rfl ?_
    refine z_iand (pc := 29) hR dX12_reckons_29 ?_
    refine z_let1 (fun v7 => ?_)
    refine z_istore (pc := 30) hR (lv' := [(5, 0, v7), (0, 2, 0), (1, 0, a1), (3, 0, a3), (4, 0, x2)]) dX12_reckons_30 (by decide) rfl ?_
    refine z_aload_n (pc := 32) hR 1 dX12_reckons_32 rfl rfl ?_
    refine z_getr (pc := 33) hR (c0 := 2) (r := 2) jf_RX12_13 kmo_0 (by decide) rfl rfl dX12_reckons_33 ?_
    refine z_sipush (pc := 36) hR dX12_reckons_36 rfl ?_
    refine z_iload_n (pc := 39) hR 2 dX12_reckons_39 rfl rfl ?_
    refine z_imul (pc := 40) hR dX12_reckons_40 ?_
    refine z_iload (pc := 41) hR 4 dX12_reckons_41 rfl ?_
    refine z_iadd (pc := 43) hR dX12_reckons_43 ?_
    refine z_chk (fun hc8 => ?_)
    refine z_iald (pc := 44) hR (n := 2400) kma_2 hc8.1 hc8.2 dX12_reckons_44 ?_
    refine z_iconst (pc := 45) hR dX12_reckons_45 rfl ?_
    refine z_ishr (pc := 46) hR dX12_reckons_46 ?_
    refine z_let1 (fun v9 => ?_)
    refine z_istore (pc := 47) hR (lv' := [(6, 0, v9), (5, 0, v7), (0, 2, 0), (1, 0, a1), (3, 0, a3), (4, 0, x2)]) dX12_reckons_47 (by decide) rfl ?_
    refine z_iload (pc := 49) hR 1 dX12_reckons_49 rfl ?_
    refine z_ifne (pc := 51) (tgt := 64) hR dX12_reckons_51 (by decide) ?_ ?_
    · refine z_iload (pc := 64) hR 1 dX12_reckons_64 rfl ?_
      refine z_iconst (pc := 66) hR dX12_reckons_66 rfl ?_
      refine z_icmpne (pc := 67) (tgt := 84) hR dX12_reckons_67 (by decide) ?_ ?_
      · refine z_iload (pc := 84) hR 1 dX12_reckons_84 rfl ?_
        refine z_bipush (pc := 86) hR dX12_reckons_86 rfl ?_
        refine z_icmpne (pc := 88) (tgt := 104) hR dX12_reckons_88 (by decide) ?_ ?_
        · refine z_aload_n (pc := 104) hR 2 dX12_reckons_104 rfl rfl ?_
          refine z_callv1 (pc := 105) hR (As := []) (st := []) jm_X12_pop jl_RX12_287 kmo_0 (by decide) rfl (by decide) (c_m_pop N M3) rfl (by decide) (by decide) rfl (Nat.le_of_ble_eq_true rfl) dX12_reckons_105 (fun r10 M11 => ?_)
          refine z_lstore (pc := 108) hR (lv' := [(7, 1, r10), (6, 0, v9), (5, 0, v7), (0, 2, 0), (1, 0, a1), (3, 0, a3), (4, 0, x2)]) dX12_reckons_108 (by decide) rfl ?_
          refine z_aload_n (pc := 110) hR 3 dX12_reckons_110 rfl rfl ?_
          refine z_callv1 (pc := 111) hR (As := []) (st := []) jm_X12_pop jl_RX12_287 kmo_0 (by decide) rfl (by decide) (c_m_pop N M11) rfl (by decide) (by decide) rfl (Nat.le_of_ble_eq_true rfl) dX12_reckons_111 (fun r12 M13 => ?_)
          refine z_lstore (pc := 114) hR (lv' := [(9, 1, r12), (7, 1, r10), (6, 0, v9), (5, 0, v7), (0, 2, 0), (1, 0, a1), (3, 0, a3), (4, 0, x2)]) dX12_reckons_114 (by decide) rfl ?_
          refine z_aload_n (pc := 116) hR 4 dX12_reckons_116 rfl rfl ?_
          refine z_iload (pc := 117) hR 3 dX12_reckons_117 rfl ?_
          refine z_lload (pc := 119) hR 0 dX12_reckons_119 rfl ?_
          refine z_lload (pc := 121) hR 1 dX12_reckons_121 rfl ?_
          refine z_callsp (pc := 123) hR (As := [(0, v7), (1, r12), (1, r10)]) (st := [(2, 0)]) jm_X12_one jl_RX12_291 (by decide) (c_m_one N v7 r12 r10 M13) rfl (by decide) (by decide) rfl (Nat.le_of_ble_eq_true rfl) dX12_reckons_123 (fun r14 => ?_)
          refine z_callv0 (pc := 126) (rk' := 3) hR (As := [(1, r14)]) (st := []) jm_X12_push jl_RX12_283 kmo_0 (by decide) rfl (c_m_push N r14 M13) rfl (by decide) (by decide) rfl (Nat.le_of_ble_eq_true rfl) dX12_reckons_126 (fun M15 => ?_)
          refine z_iinc (pc := 129) hR (j := 7) (lv' := [(4, 0, (w32 (x2 + 1))), (9, 1, r12), (7, 1, r10), (6, 0, v9), (5, 0, v7), (0, 2, 0), (1, 0, a1), (3, 0, a3)]) dX12_reckons_129 rfl (by decide) rfl ?_
          refine z_goto (pc := 132) (tgt := 8) hR dX12_reckons_132 (by decide) ?_
          refine z_pick (pc := 8) (lv' := [(0, 2, 0), (1, 0, a1), (3, 0, a3), (4, 0, (w32 (x2 + 1)))]) hR [5, 6, 7, 0] rfl ?_
          exact hh8 ((w32 (x2 + 1)), M15)
        · refine z_aload_n (pc := 91) hR 2 dX12_reckons_91 rfl rfl ?_
          refine z_lconst (pc := 92) hR (x := 1) dX12_reckons_92 rfl ?_
          refine z_aload_n (pc := 93) hR 2 dX12_reckons_93 rfl rfl ?_
          refine z_callv1 (pc := 94) hR (As := []) (st := [(1, 1), (2, 0)]) jm_X12_pop jl_RX12_287 kmo_0 (by decide) rfl (by decide) (c_m_pop N M3) rfl (by decide) (by decide) rfl (Nat.le_of_ble_eq_true rfl) dX12_reckons_94 (fun r16 M17 => ?_)
          refine z_lsub (pc := 97) hR dX12_reckons_97 ?_
          refine z_callv0 (pc := 98) (rk' := 3) hR (As := [(1, (w64 (1 - r16)))]) (st := []) jm_X12_push jl_RX12_283 kmo_0 (by decide) rfl (c_m_push N ((w64 (1 - r16))) M17) rfl (by decide) (by decide) rfl (Nat.le_of_ble_eq_true rfl) dX12_reckons_98 (fun M18 => ?_)
          refine z_goto (pc := 101) (tgt := 129) hR dX12_reckons_101 (by decide) ?_
          refine z_iinc (pc := 129) hR (j := 5) (lv' := [(4, 0, (w32 (x2 + 1))), (6, 0, v9), (5, 0, v7), (0, 2, 0), (1, 0, a1), (3, 0, a3)]) dX12_reckons_129 rfl (by decide) rfl ?_
          refine z_goto (pc := 132) (tgt := 8) hR dX12_reckons_132 (by decide) ?_
          refine z_pick (pc := 8) (lv' := [(0, 2, 0), (1, 0, a1), (3, 0, a3), (4, 0, (w32 (x2 + 1)))]) hR [3, 4, 5, 0] rfl ?_
          exact hh8 ((w32 (x2 + 1)), M18)
      · refine z_aload_n (pc := 70) hR 2 dX12_reckons_70 rfl rfl ?_
        refine z_aload_n (pc := 71) hR 2 dX12_reckons_71 rfl rfl ?_
        refine z_getr (pc := 72) hR (c0 := 9) (r := 9) jf_RX12_36 kmo_0 (by decide) rfl rfl dX12_reckons_72 ?_
        refine z_iload (pc := 75) hR 0 dX12_reckons_75 rfl ?_
        refine z_chk (fun hc19 => ?_)
        refine z_lald (pc := 77) hR (n := 12) kma_9 hc19.1 hc19.2 dX12_reckons_77 ?_
        refine z_callv0 (pc := 78) (rk' := 3) hR (As := [(1, (M3 9 v9))]) (st := []) jm_X12_push jl_RX12_283 kmo_0 (by decide) rfl (c_m_push N ((M3 9 v9)) M3) rfl (by decide) (by decide) rfl (Nat.le_of_ble_eq_true rfl) dX12_reckons_78 (fun M20 => ?_)
        refine z_goto (pc := 81) (tgt := 129) hR dX12_reckons_81 (by decide) ?_
        refine z_iinc (pc := 129) hR (j := 5) (lv' := [(4, 0, (w32 (x2 + 1))), (6, 0, v9), (5, 0, v7), (0, 2, 0), (1, 0, a1), (3, 0, a3)]) dX12_reckons_129 rfl (by decide) rfl ?_
        refine z_goto (pc := 132) (tgt := 8) hR dX12_reckons_132 (by decide) ?_
        refine z_pick (pc := 8) (lv' := [(0, 2, 0), (1, 0, a1), (3, 0, a3), (4, 0, (w32 (x2 + 1)))]) hR [3, 4, 5, 0] rfl ?_
        exact hh8 ((w32 (x2 + 1)), M20)
    · refine z_aload_n (pc := 54) hR 2 dX12_reckons_54 rfl rfl ?_
      refine z_iload (pc := 55) hR 0 dX12_reckons_55 rfl ?_
      refine z_i2l (pc := 57) hR dX12_reckons_57 ?_
      refine z_callv0 (pc := 58) (rk' := 3) hR (As := [(1, v9)]) (st := []) jm_X12_push jl_RX12_283 kmo_0 (by decide) rfl (c_m_push N v9 M3) rfl (by decide) (by decide) rfl (Nat.le_of_ble_eq_true rfl) dX12_reckons_58 (fun M21 => ?_)
      refine z_goto (pc := 61) (tgt := 129) hR dX12_reckons_61 (by decide) ?_
      refine z_iinc (pc := 129) hR (j := 5) (lv' := [(4, 0, (w32 (x2 + 1))), (6, 0, v9), (5, 0, v7), (0, 2, 0), (1, 0, a1), (3, 0, a3)]) dX12_reckons_129 rfl (by decide) rfl ?_
      refine z_goto (pc := 132) (tgt := 8) hR dX12_reckons_132 (by decide) ?_
      refine z_pick (pc := 8) (lv' := [(0, 2, 0), (1, 0, a1), (3, 0, a3), (4, 0, (w32 (x2 + 1)))]) hR [3, 4, 5, 0] rfl ?_
      exact hh8 ((w32 (x2 + 1)), M21)
theorem dX12_isParish_0 : decode cX12_isParish 0 = .ok (.aload_n 0, 1) := by decide +kernel
theorem dX12_isParish_1 : decode cX12_isParish 1 = .ok (.getfield 39, 3) := by decide +kernel
theorem dX12_isParish_4 : decode cX12_isParish 4 = .ok (.iconst 0, 1) := by decide +kernel
theorem dX12_isParish_5 : decode cX12_isParish 5 = .ok (.iaload, 1) := by decide +kernel
theorem dX12_isParish_6 : decode cX12_isParish 6 = .ok (.iconst 1, 1) := by decide +kernel
theorem dX12_isParish_7 : decode cX12_isParish 7 = .ok (.if_icmp .ne 7, 3) := by decide +kernel
theorem dX12_isParish_10 : decode cX12_isParish 10 = .ok (.iconst 1, 1) := by decide +kernel
theorem dX12_isParish_11 : decode cX12_isParish 11 = .ok (.goto 4, 3) := by decide +kernel
theorem dX12_isParish_14 : decode cX12_isParish 14 = .ok (.iconst 0, 1) := by decide +kernel
theorem dX12_isParish_15 : decode cX12_isParish 15 = .ok (.ireturn, 1) := by decide +kernel
def m_isParish (N : Nat) (M : jMem) : Option Int := (if (M 10 0) = 1 then some 1 else some 0)
theorem c_m_isParish {l : Launch} {g : jG} (N : Nat) (M : jMem)  : ∀ o, m_isParish N  M = some o → jCt l g jTM yX12_isParish cX12_isParish 1 (some .boolean) 0 1 [(2, 0)] M (o, M) := by
  refine jMet (own := RX12) (em := (fun r => (r, M))) (L := [(0, 2, 0)]) (by decide +kernel) rfl (Nat.le_of_ble_eq_true rfl) rfl (fun K hR => ?_)
  unfold m_isParish
  refine z_aload_n (pc := 0) hR 0 dX12_isParish_0 rfl rfl ?_
  refine z_getr (pc := 1) hR (c0 := 10) (r := 10) jf_RX12_39 kmo_0 (by decide) rfl rfl dX12_isParish_1 ?_
  refine z_iconst (pc := 4) hR dX12_isParish_4 rfl ?_
  refine z_iald (pc := 5) hR (n := 112) kma_10 (by decide) (by decide) dX12_isParish_5 ?_
  refine z_iconst (pc := 6) hR dX12_isParish_6 rfl ?_
  refine z_icmpne (pc := 7) (tgt := 14) hR dX12_isParish_7 (by decide) ?_ ?_
  · refine z_iconst (pc := 14) hR dX12_isParish_14 rfl ?_
    exact z_zreturn (pc := 15) hR rfl rfl (Or.inl rfl) dX12_isParish_15 rfl
  · refine z_iconst (pc := 10) hR dX12_isParish_10 rfl ?_
    refine z_goto (pc := 11) (tgt := 15) hR dX12_isParish_11 (by decide) ?_
    exact z_zreturn (pc := 15) hR rfl rfl (Or.inr rfl) dX12_isParish_15 rfl
theorem dX12_isOne_0 : decode cX12_isOne 0 = .ok (.iload_n 1, 1) := by decide +kernel
theorem dX12_isOne_1 : decode cX12_isOne 1 = .ok (.ifCond .lt 17, 3) := by decide +kernel
theorem dX12_isOne_4 : decode cX12_isOne 4 = .ok (.iload_n 1, 1) := by decide +kernel
theorem dX12_isOne_5 : decode cX12_isOne 5 = .ok (.aload_n 0, 1) := by decide +kernel
theorem dX12_isOne_6 : decode cX12_isOne 6 = .ok (.getfield 39, 3) := by decide +kernel
theorem dX12_isOne_9 : decode cX12_isOne 9 = .ok (.iconst 1, 1) := by decide +kernel
theorem dX12_isOne_10 : decode cX12_isOne 10 = .ok (.iaload, 1) := by decide +kernel
theorem dX12_isOne_11 : decode cX12_isOne 11 = .ok (.if_icmp .ge 7, 3) := by decide +kernel
theorem dX12_isOne_14 : decode cX12_isOne 14 = .ok (.iconst 1, 1) := by decide +kernel
theorem dX12_isOne_15 : decode cX12_isOne 15 = .ok (.goto 4, 3) := by decide +kernel
theorem dX12_isOne_18 : decode cX12_isOne 18 = .ok (.iconst 0, 1) := by decide +kernel
theorem dX12_isOne_19 : decode cX12_isOne 19 = .ok (.ireturn, 1) := by decide +kernel
def m_isOne (N : Nat) (a1 : Int) (M : jMem) : Option Int := (if a1 < 0 then some 0 else (if a1 < (M 10 1) then some 1 else some 0))
theorem c_m_isOne {l : Launch} {g : jG} (N : Nat) (a1 : Int) (M : jMem)  : ∀ o, m_isOne N a1 M = some o → jCt l g jTM yX12_isOne cX12_isOne 2 (some .boolean) 0 1 [(2, 0), (0, a1)] M (o, M) := by
  refine jMet (own := RX12) (em := (fun r => (r, M))) (L := [(0, 2, 0), (1, 0, a1)]) (by decide +kernel) rfl (Nat.le_of_ble_eq_true rfl) rfl (fun K hR => ?_)
  unfold m_isOne
  refine z_iload_n (pc := 0) hR 1 dX12_isOne_0 rfl rfl ?_
  refine z_iflt (pc := 1) (tgt := 18) hR dX12_isOne_1 (by decide) ?_ ?_
  · refine z_iconst (pc := 18) hR dX12_isOne_18 rfl ?_
    exact z_zreturn (pc := 19) hR rfl rfl (Or.inl rfl) dX12_isOne_19 rfl
  · refine z_iload_n (pc := 4) hR 1 dX12_isOne_4 rfl rfl ?_
    refine z_aload_n (pc := 5) hR 0 dX12_isOne_5 rfl rfl ?_
    refine z_getr (pc := 6) hR (c0 := 10) (r := 10) jf_RX12_39 kmo_0 (by decide) rfl rfl dX12_isOne_6 ?_
    refine z_iconst (pc := 9) hR dX12_isOne_9 rfl ?_
    refine z_iald (pc := 10) hR (n := 112) kma_10 (by decide) (by decide) dX12_isOne_10 ?_
    refine z_icmpge (pc := 11) (tgt := 18) hR dX12_isOne_11 (by decide) ?_ ?_
    · refine z_iconst (pc := 18) hR dX12_isOne_18 rfl ?_
      exact z_zreturn (pc := 19) hR rfl rfl (Or.inl rfl) dX12_isOne_19 rfl
    · refine z_iconst (pc := 14) hR dX12_isOne_14 rfl ?_
      refine z_goto (pc := 15) (tgt := 19) hR dX12_isOne_15 (by decide) ?_
      exact z_zreturn (pc := 19) hR rfl rfl (Or.inr rfl) dX12_isOne_19 rfl
theorem dX12_isKin_0 : decode cX12_isKin 0 = .ok (.aload_n 0, 1) := by decide +kernel
theorem dX12_isKin_1 : decode cX12_isKin 1 = .ok (.getfield 39, 3) := by decide +kernel
theorem dX12_isKin_4 : decode cX12_isKin 4 = .ok (.bipush 53, 2) := by decide +kernel
theorem dX12_isKin_6 : decode cX12_isKin 6 = .ok (.iload_n 1, 1) := by decide +kernel
theorem dX12_isKin_7 : decode cX12_isKin 7 = .ok (.iadd, 1) := by decide +kernel
theorem dX12_isKin_8 : decode cX12_isKin 8 = .ok (.iaload, 1) := by decide +kernel
theorem dX12_isKin_9 : decode cX12_isKin 9 = .ok (.iload_n 2, 1) := by decide +kernel
theorem dX12_isKin_10 : decode cX12_isKin 10 = .ok (.invokestatic 295, 3) := by decide +kernel
theorem dX12_isKin_13 : decode cX12_isKin 13 = .ok (.ireturn, 1) := by decide +kernel
def m_isKin (N : Nat) (a1 a2 : Int) (M : jMem) : Option Int := jchk (0 ≤ (w32 (53 + a1)) ∧ (w32 (53 + a1)) < 112) <| (m_isOf N ((M 10 ((w32 (53 + a1))))) a2 M).bind fun r2 => jchk (r2 = 0 ∨ r2 = 1) <| some r2
theorem c_m_isKin {l : Launch} {g : jG} (N : Nat) (a1 a2 : Int) (M : jMem)  : ∀ o, m_isKin N a1 a2 M = some o → jCt l g jTM yX12_isKin cX12_isKin 3 (some .boolean) 0 3 [(2, 0), (0, a1), (0, a2)] M (o, M) := by
  refine jMet (own := RX12) (em := (fun r => (r, M))) (L := [(0, 2, 0), (1, 0, a1), (2, 0, a2)]) (by decide +kernel) rfl (Nat.le_of_ble_eq_true rfl) rfl (fun K hR => ?_)
  unfold m_isKin
  refine z_aload_n (pc := 0) hR 0 dX12_isKin_0 rfl rfl ?_
  refine z_getr (pc := 1) hR (c0 := 10) (r := 10) jf_RX12_39 kmo_0 (by decide) rfl rfl dX12_isKin_1 ?_
  refine z_bipush (pc := 4) hR dX12_isKin_4 rfl ?_
  refine z_iload_n (pc := 6) hR 1 dX12_isKin_6 rfl rfl ?_
  refine z_iadd (pc := 7) hR dX12_isKin_7 ?_
  refine z_chk (fun hc1 => ?_)
  refine z_iald (pc := 8) hR (n := 112) kma_10 hc1.1 hc1.2 dX12_isKin_8 ?_
  refine z_iload_n (pc := 9) hR 2 dX12_isKin_9 rfl rfl ?_
  refine z_callsp (pc := 10) hR (As := [(0, (M 10 ((w32 (53 + a1))))), (0, a2)]) (st := []) jm_X12_isOf jl_RX12_295 (by decide) (c_m_isOf N ((M 10 ((w32 (53 + a1))))) a2 M) rfl (by decide) (by decide) rfl (Nat.le_of_ble_eq_true rfl) dX12_isKin_10 (fun r2 => ?_)
  refine z_chk (fun hc3 => ?_)
  exact z_zreturn (pc := 13) hR rfl rfl hc3 dX12_isKin_13 rfl
theorem dX12_canWed_0 : decode cX12_canWed 0 = .ok (.aload_n 0, 1) := by decide +kernel
theorem dX12_canWed_1 : decode cX12_canWed 1 = .ok (.iload_n 1, 1) := by decide +kernel
theorem dX12_canWed_2 : decode cX12_canWed 2 = .ok (.invokevirtual 298, 3) := by decide +kernel
theorem dX12_canWed_5 : decode cX12_canWed 5 = .ok (.ifCond .eq 48, 3) := by decide +kernel
theorem dX12_canWed_8 : decode cX12_canWed 8 = .ok (.aload_n 0, 1) := by decide +kernel
theorem dX12_canWed_9 : decode cX12_canWed 9 = .ok (.iload_n 2, 1) := by decide +kernel
theorem dX12_canWed_10 : decode cX12_canWed 10 = .ok (.invokevirtual 298, 3) := by decide +kernel
theorem dX12_canWed_13 : decode cX12_canWed 13 = .ok (.ifCond .eq 40, 3) := by decide +kernel
theorem dX12_canWed_16 : decode cX12_canWed 16 = .ok (.aload_n 0, 1) := by decide +kernel
theorem dX12_canWed_17 : decode cX12_canWed 17 = .ok (.iload_n 1, 1) := by decide +kernel
theorem dX12_canWed_18 : decode cX12_canWed 18 = .ok (.iload_n 2, 1) := by decide +kernel
theorem dX12_canWed_19 : decode cX12_canWed 19 = .ok (.invokevirtual 301, 3) := by decide +kernel
theorem dX12_canWed_22 : decode cX12_canWed 22 = .ok (.ifCond .eq 31, 3) := by decide +kernel
theorem dX12_canWed_25 : decode cX12_canWed 25 = .ok (.aload_n 0, 1) := by decide +kernel
theorem dX12_canWed_26 : decode cX12_canWed 26 = .ok (.getfield 39, 3) := by decide +kernel
theorem dX12_canWed_29 : decode cX12_canWed 29 = .ok (.bipush 39, 2) := by decide +kernel
theorem dX12_canWed_31 : decode cX12_canWed 31 = .ok (.iload_n 1, 1) := by decide +kernel
theorem dX12_canWed_32 : decode cX12_canWed 32 = .ok (.iadd, 1) := by decide +kernel
theorem dX12_canWed_33 : decode cX12_canWed 33 = .ok (.iaload, 1) := by decide +kernel
theorem dX12_canWed_34 : decode cX12_canWed 34 = .ok (.ifCond .le 19, 3) := by decide +kernel
theorem dX12_canWed_37 : decode cX12_canWed 37 = .ok (.aload_n 0, 1) := by decide +kernel
theorem dX12_canWed_38 : decode cX12_canWed 38 = .ok (.getfield 39, 3) := by decide +kernel
theorem dX12_canWed_41 : decode cX12_canWed 41 = .ok (.bipush 39, 2) := by decide +kernel
theorem dX12_canWed_43 : decode cX12_canWed 43 = .ok (.iload_n 2, 1) := by decide +kernel
theorem dX12_canWed_44 : decode cX12_canWed 44 = .ok (.iadd, 1) := by decide +kernel
theorem dX12_canWed_45 : decode cX12_canWed 45 = .ok (.iaload, 1) := by decide +kernel
theorem dX12_canWed_46 : decode cX12_canWed 46 = .ok (.ifCond .le 7, 3) := by decide +kernel
theorem dX12_canWed_49 : decode cX12_canWed 49 = .ok (.iconst 1, 1) := by decide +kernel
theorem dX12_canWed_50 : decode cX12_canWed 50 = .ok (.goto 4, 3) := by decide +kernel
theorem dX12_canWed_53 : decode cX12_canWed 53 = .ok (.iconst 0, 1) := by decide +kernel
theorem dX12_canWed_54 : decode cX12_canWed 54 = .ok (.ireturn, 1) := by decide +kernel
def m_canWed (N : Nat) (a1 a2 : Int) (M : jMem) : Option Int := (m_isOne N a1 M).bind fun r1 => (if r1 = 0 then some 0 else (m_isOne N a2 M).bind fun r2 => (if r2 = 0 then some 0 else (m_isKin N a1 a2 M).bind fun r3 => (if r3 = 0 then some 0 else jchk (0 ≤ (w32 (39 + a1)) ∧ (w32 (39 + a1)) < 112) <| (if 0 < (M 10 ((w32 (39 + a1)))) then jchk (0 ≤ (w32 (39 + a2)) ∧ (w32 (39 + a2)) < 112) <| (if 0 < (M 10 ((w32 (39 + a2)))) then some 1 else some 0) else some 0))))
theorem c_m_canWed {l : Launch} {g : jG} (N : Nat) (a1 a2 : Int) (M : jMem)  : ∀ o, m_canWed N a1 a2 M = some o → jCt l g jTM yX12_canWed cX12_canWed 3 (some .boolean) 0 5 [(2, 0), (0, a1), (0, a2)] M (o, M) := by
  refine jMet (own := RX12) (em := (fun r => (r, M))) (L := [(0, 2, 0), (1, 0, a1), (2, 0, a2)]) (by decide +kernel) rfl (Nat.le_of_ble_eq_true rfl) rfl (fun K hR => ?_)
  unfold m_canWed
  refine z_aload_n (pc := 0) hR 0 dX12_canWed_0 rfl rfl ?_
  refine z_iload_n (pc := 1) hR 1 dX12_canWed_1 rfl rfl ?_
  refine z_callvp (pc := 2) hR (As := [(0, a1)]) (st := []) jm_X12_isOne jl_RX12_298 kmo_0 (by decide) rfl (by decide) (c_m_isOne N a1 M) rfl (by decide) (by decide) rfl (Nat.le_of_ble_eq_true rfl) dX12_canWed_2 (fun r1 => ?_)
  refine z_ifeq (pc := 5) (tgt := 53) hR dX12_canWed_5 (by decide) ?_ ?_
  · refine z_iconst (pc := 53) hR dX12_canWed_53 rfl ?_
    exact z_zreturn (pc := 54) hR rfl rfl (Or.inl rfl) dX12_canWed_54 rfl
  · refine z_aload_n (pc := 8) hR 0 dX12_canWed_8 rfl rfl ?_
    refine z_iload_n (pc := 9) hR 2 dX12_canWed_9 rfl rfl ?_
    refine z_callvp (pc := 10) hR (As := [(0, a2)]) (st := []) jm_X12_isOne jl_RX12_298 kmo_0 (by decide) rfl (by decide) (c_m_isOne N a2 M) rfl (by decide) (by decide) rfl (Nat.le_of_ble_eq_true rfl) dX12_canWed_10 (fun r2 => ?_)
    refine z_ifeq (pc := 13) (tgt := 53) hR dX12_canWed_13 (by decide) ?_ ?_
    · refine z_iconst (pc := 53) hR dX12_canWed_53 rfl ?_
      exact z_zreturn (pc := 54) hR rfl rfl (Or.inl rfl) dX12_canWed_54 rfl
    · refine z_aload_n (pc := 16) hR 0 dX12_canWed_16 rfl rfl ?_
      refine z_iload_n (pc := 17) hR 1 dX12_canWed_17 rfl rfl ?_
      refine z_iload_n (pc := 18) hR 2 dX12_canWed_18 rfl rfl ?_
      refine z_callvp (pc := 19) hR (As := [(0, a1), (0, a2)]) (st := []) jm_X12_isKin jl_RX12_301 kmo_0 (by decide) rfl (by decide) (c_m_isKin N a1 a2 M) rfl (by decide) (by decide) rfl (Nat.le_of_ble_eq_true rfl) dX12_canWed_19 (fun r3 => ?_)
      refine z_ifeq (pc := 22) (tgt := 53) hR dX12_canWed_22 (by decide) ?_ ?_
      · refine z_iconst (pc := 53) hR dX12_canWed_53 rfl ?_
        exact z_zreturn (pc := 54) hR rfl rfl (Or.inl rfl) dX12_canWed_54 rfl
      · refine z_aload_n (pc := 25) hR 0 dX12_canWed_25 rfl rfl ?_
        refine z_getr (pc := 26) hR (c0 := 10) (r := 10) jf_RX12_39 kmo_0 (by decide) rfl rfl dX12_canWed_26 ?_
        refine z_bipush (pc := 29) hR dX12_canWed_29 rfl ?_
        refine z_iload_n (pc := 31) hR 1 dX12_canWed_31 rfl rfl ?_
        refine z_iadd (pc := 32) hR dX12_canWed_32 ?_
        refine z_chk (fun hc4 => ?_)
        refine z_iald (pc := 33) hR (n := 112) kma_10 hc4.1 hc4.2 dX12_canWed_33 ?_
        refine z_ifle (pc := 34) (tgt := 53) hR dX12_canWed_34 (by decide) ?_ ?_
        · refine z_iconst (pc := 53) hR dX12_canWed_53 rfl ?_
          exact z_zreturn (pc := 54) hR rfl rfl (Or.inl rfl) dX12_canWed_54 rfl
        · refine z_aload_n (pc := 37) hR 0 dX12_canWed_37 rfl rfl ?_
          refine z_getr (pc := 38) hR (c0 := 10) (r := 10) jf_RX12_39 kmo_0 (by decide) rfl rfl dX12_canWed_38 ?_
          refine z_bipush (pc := 41) hR dX12_canWed_41 rfl ?_
          refine z_iload_n (pc := 43) hR 2 dX12_canWed_43 rfl rfl ?_
          refine z_iadd (pc := 44) hR dX12_canWed_44 ?_
          refine z_chk (fun hc5 => ?_)
          refine z_iald (pc := 45) hR (n := 112) kma_10 hc5.1 hc5.2 dX12_canWed_45 ?_
          refine z_ifle (pc := 46) (tgt := 53) hR dX12_canWed_46 (by decide) ?_ ?_
          · refine z_iconst (pc := 53) hR dX12_canWed_53 rfl ?_
            exact z_zreturn (pc := 54) hR rfl rfl (Or.inl rfl) dX12_canWed_54 rfl
          · refine z_iconst (pc := 49) hR dX12_canWed_49 rfl ?_
            refine z_goto (pc := 50) (tgt := 54) hR dX12_canWed_50 (by decide) ?_
            exact z_zreturn (pc := 54) hR rfl rfl (Or.inr rfl) dX12_canWed_54 rfl
theorem dX12_homeOnes_0 : decode cX12_homeOnes 0 = .ok (.iconst 0, 1) := by decide +kernel
theorem dX12_homeOnes_1 : decode cX12_homeOnes 1 = .ok (.istore_n 1, 1) := by decide +kernel
theorem dX12_homeOnes_2 : decode cX12_homeOnes 2 = .ok (.iconst 0, 1) := by decide +kernel
theorem dX12_homeOnes_3 : decode cX12_homeOnes 3 = .ok (.istore_n 2, 1) := by decide +kernel
theorem dX12_homeOnes_4 : decode cX12_homeOnes 4 = .ok (.iload_n 2, 1) := by decide +kernel
theorem dX12_homeOnes_5 : decode cX12_homeOnes 5 = .ok (.aload_n 0, 1) := by decide +kernel
theorem dX12_homeOnes_6 : decode cX12_homeOnes 6 = .ok (.getfield 39, 3) := by decide +kernel
theorem dX12_homeOnes_9 : decode cX12_homeOnes 9 = .ok (.iconst 1, 1) := by decide +kernel
theorem dX12_homeOnes_10 : decode cX12_homeOnes 10 = .ok (.iaload, 1) := by decide +kernel
theorem dX12_homeOnes_11 : decode cX12_homeOnes 11 = .ok (.if_icmp .ge 32, 3) := by decide +kernel
theorem dX12_homeOnes_14 : decode cX12_homeOnes 14 = .ok (.iload_n 1, 1) := by decide +kernel
theorem dX12_homeOnes_15 : decode cX12_homeOnes 15 = .ok (.aload_n 0, 1) := by decide +kernel
theorem dX12_homeOnes_16 : decode cX12_homeOnes 16 = .ok (.getfield 39, 3) := by decide +kernel
theorem dX12_homeOnes_19 : decode cX12_homeOnes 19 = .ok (.bipush 32, 2) := by decide +kernel
theorem dX12_homeOnes_21 : decode cX12_homeOnes 21 = .ok (.iload_n 2, 1) := by decide +kernel
theorem dX12_homeOnes_22 : decode cX12_homeOnes 22 = .ok (.iadd, 1) := by decide +kernel
theorem dX12_homeOnes_23 : decode cX12_homeOnes 23 = .ok (.iaload, 1) := by decide +kernel
theorem dX12_homeOnes_24 : decode cX12_homeOnes 24 = .ok (.iload_n 2, 1) := by decide +kernel
theorem dX12_homeOnes_25 : decode cX12_homeOnes 25 = .ok (.if_icmp .ne 9, 3) := by decide +kernel
theorem dX12_homeOnes_28 : decode cX12_homeOnes 28 = .ok (.iconst 1, 1) := by decide +kernel
theorem dX12_homeOnes_29 : decode cX12_homeOnes 29 = .ok (.iload_n 2, 1) := by decide +kernel
theorem dX12_homeOnes_30 : decode cX12_homeOnes 30 = .ok (.ishl, 1) := by decide +kernel
theorem dX12_homeOnes_31 : decode cX12_homeOnes 31 = .ok (.goto 4, 3) := by decide +kernel
theorem dX12_homeOnes_34 : decode cX12_homeOnes 34 = .ok (.iconst 0, 1) := by decide +kernel
theorem dX12_homeOnes_35 : decode cX12_homeOnes 35 = .ok (.ior, 1) := by decide +kernel
theorem dX12_homeOnes_36 : decode cX12_homeOnes 36 = .ok (.istore_n 1, 1) := by decide +kernel
theorem dX12_homeOnes_37 : decode cX12_homeOnes 37 = .ok (.iinc 2 1, 3) := by decide +kernel
theorem dX12_homeOnes_40 : decode cX12_homeOnes 40 = .ok (.goto (-36), 3) := by decide +kernel
theorem dX12_homeOnes_43 : decode cX12_homeOnes 43 = .ok (.iload_n 1, 1) := by decide +kernel
theorem dX12_homeOnes_44 : decode cX12_homeOnes 44 = .ok (.ireturn, 1) := by decide +kernel
def m_homeOnes_L4 (N : Nat) (M : jMem) (h4 : (Int × Int) → Option Int) : Int × Int → Option Int
  | (x1, x2) => (if x2 < (M 10 1) then jchk (0 ≤ (w32 (32 + x2)) ∧ (w32 (32 + x2)) < 112) <| (if (M 10 ((w32 (32 + x2)))) = x2 then jlt ((jor x1 ((jshl 1 x2)))) fun v5 => h4 (v5, (w32 (x2 + 1))) else jlt ((jor x1 0)) fun v4 => h4 (v4, (w32 (x2 + 1)))) else some x1)
def m_homeOnes (N : Nat) (M : jMem) : Option Int := jfix N (m_homeOnes_L4 N M) (0, 0)
theorem c_m_homeOnes {l : Launch} {g : jG} (N : Nat) (M : jMem)  : ∀ o, m_homeOnes N  M = some o → jCt l g jTM yX12_homeOnes cX12_homeOnes 3 (some .int) 0 1 [(2, 0)] M (o, M) := by
  refine jMet (own := RX12) (em := (fun r => (r, M))) (L := [(0, 2, 0)]) (by decide +kernel) rfl (Nat.le_of_ble_eq_true rfl) rfl (fun K hR => ?_)
  unfold m_homeOnes
  refine z_iconst (pc := 0) hR dX12_homeOnes_0 rfl ?_
  refine z_istore_n (pc := 1) hR (lv' := [(1, 0, 0), (0, 2, 0)]) dX12_homeOnes_1 rfl (by decide) rfl ?_
  refine z_iconst (pc := 2) hR dX12_homeOnes_2 rfl ?_
  refine z_istore_n (pc := 3) hR (lv' := [(2, 0, 0), (1, 0, 0), (0, 2, 0)]) dX12_homeOnes_3 rfl (by decide) rfl ?_
  refine z_pick (pc := 4) (lv' := [(0, 2, 0), (1, 0, 0), (2, 0, 0)]) hR [2, 1, 0] rfl ?_
  refine z_fix (σ := Int × Int) (lv := fun s => [(0, 2, 0), (1, 0, s.1), (2, 0, s.2)]) (st := fun _ => []) (M := fun _ => M) (fun h4 hh4 => ?_) N (0, 0)
  rintro ⟨x1, x2⟩
  show jZ K (fun r => (r, M)) 4 [(0, 2, 0), (1, 0, x1), (2, 0, x2)] [] M _
  unfold m_homeOnes_L4
  refine z_iload_n (pc := 4) hR 2 dX12_homeOnes_4 rfl rfl ?_
  refine z_aload_n (pc := 5) hR 0 dX12_homeOnes_5 rfl rfl ?_
  refine z_getr (pc := 6) hR (c0 := 10) (r := 10) jf_RX12_39 kmo_0 (by decide) rfl rfl dX12_homeOnes_6 ?_
  refine z_iconst (pc := 9) hR dX12_homeOnes_9 rfl ?_
  refine z_iald (pc := 10) hR (n := 112) kma_10 (by decide) (by decide) dX12_homeOnes_10 ?_
  refine z_icmpge (pc := 11) (tgt := 43) hR dX12_homeOnes_11 (by decide) ?_ ?_
  · refine z_iload_n (pc := 43) hR 1 dX12_homeOnes_43 rfl rfl ?_
    exact z_ireturn (pc := 44) hR rfl rfl dX12_homeOnes_44 rfl
  · refine z_iload_n (pc := 14) hR 1 dX12_homeOnes_14 rfl rfl ?_
    refine z_aload_n (pc := 15) hR 0 dX12_homeOnes_15 rfl rfl ?_
    refine z_getr (pc := 16) hR (c0 := 10) (r := 10) jf_RX12_39 kmo_0 (by decide) rfl rfl dX12_homeOnes_16 ?_
    refine z_bipush (pc := 19) hR dX12_homeOnes_19 rfl ?_
    refine z_iload_n (pc := 21) hR 2 dX12_homeOnes_21 rfl rfl ?_
    refine z_iadd (pc := 22) hR dX12_homeOnes_22 ?_
    refine z_chk (fun hc3 => ?_)
    refine z_iald (pc := 23) hR (n := 112) kma_10 hc3.1 hc3.2 dX12_homeOnes_23 ?_
    refine z_iload_n (pc := 24) hR 2 dX12_homeOnes_24 rfl rfl ?_
    refine z_icmpne (pc := 25) (tgt := 34) hR dX12_homeOnes_25 (by decide) ?_ ?_
    · refine z_iconst (pc := 34) hR dX12_homeOnes_34 rfl ?_
      refine z_ior (pc := 35) hR dX12_homeOnes_35 ?_
      refine z_let1 (fun v4 => ?_)
      refine z_istore_n (pc := 36) hR (lv' := [(1, 0, v4), (0, 2, 0), (2, 0, x2)]) dX12_homeOnes_36 rfl (by decide) rfl ?_
      refine z_iinc (pc := 37) hR (j := 2) (lv' := [(2, 0, (w32 (x2 + 1))), (1, 0, v4), (0, 2, 0)]) dX12_homeOnes_37 rfl (by decide) rfl ?_
      refine z_goto (pc := 40) (tgt := 4) hR dX12_homeOnes_40 (by decide) ?_
      refine z_pick (pc := 4) (lv' := [(0, 2, 0), (1, 0, v4), (2, 0, (w32 (x2 + 1)))]) hR [2, 1, 0] rfl ?_
      exact hh4 (v4, (w32 (x2 + 1)))
    · refine z_iconst (pc := 28) hR dX12_homeOnes_28 rfl ?_
      refine z_iload_n (pc := 29) hR 2 dX12_homeOnes_29 rfl rfl ?_
      refine z_ishl (pc := 30) hR dX12_homeOnes_30 ?_
      refine z_goto (pc := 31) (tgt := 35) hR dX12_homeOnes_31 (by decide) ?_
      refine z_ior (pc := 35) hR dX12_homeOnes_35 ?_
      refine z_let1 (fun v5 => ?_)
      refine z_istore_n (pc := 36) hR (lv' := [(1, 0, v5), (0, 2, 0), (2, 0, x2)]) dX12_homeOnes_36 rfl (by decide) rfl ?_
      refine z_iinc (pc := 37) hR (j := 2) (lv' := [(2, 0, (w32 (x2 + 1))), (1, 0, v5), (0, 2, 0)]) dX12_homeOnes_37 rfl (by decide) rfl ?_
      refine z_goto (pc := 40) (tgt := 4) hR dX12_homeOnes_40 (by decide) ?_
      refine z_pick (pc := 4) (lv' := [(0, 2, 0), (1, 0, v5), (2, 0, (w32 (x2 + 1)))]) hR [2, 1, 0] rfl ?_
      exact hh4 (v5, (w32 (x2 + 1)))
theorem dX12_sumOver_0 : decode cX12_sumOver 0 = .ok (.iconst 0, 1) := by decide +kernel
theorem dX12_sumOver_1 : decode cX12_sumOver 1 = .ok (.istore_n 2, 1) := by decide +kernel
theorem dX12_sumOver_2 : decode cX12_sumOver 2 = .ok (.iconst 0, 1) := by decide +kernel
theorem dX12_sumOver_3 : decode cX12_sumOver 3 = .ok (.istore_n 3, 1) := by decide +kernel
theorem dX12_sumOver_4 : decode cX12_sumOver 4 = .ok (.iload_n 3, 1) := by decide +kernel
theorem dX12_sumOver_5 : decode cX12_sumOver 5 = .ok (.aload_n 0, 1) := by decide +kernel
theorem dX12_sumOver_6 : decode cX12_sumOver 6 = .ok (.getfield 39, 3) := by decide +kernel
theorem dX12_sumOver_9 : decode cX12_sumOver 9 = .ok (.iconst 1, 1) := by decide +kernel
theorem dX12_sumOver_10 : decode cX12_sumOver 10 = .ok (.iaload, 1) := by decide +kernel
theorem dX12_sumOver_11 : decode cX12_sumOver 11 = .ok (.if_icmp .ge 20, 3) := by decide +kernel
theorem dX12_sumOver_14 : decode cX12_sumOver 14 = .ok (.iload_n 2, 1) := by decide +kernel
theorem dX12_sumOver_15 : decode cX12_sumOver 15 = .ok (.aload_n 0, 1) := by decide +kernel
theorem dX12_sumOver_16 : decode cX12_sumOver 16 = .ok (.getfield 39, 3) := by decide +kernel
theorem dX12_sumOver_19 : decode cX12_sumOver 19 = .ok (.iload_n 1, 1) := by decide +kernel
theorem dX12_sumOver_20 : decode cX12_sumOver 20 = .ok (.iload_n 3, 1) := by decide +kernel
theorem dX12_sumOver_21 : decode cX12_sumOver 21 = .ok (.iadd, 1) := by decide +kernel
theorem dX12_sumOver_22 : decode cX12_sumOver 22 = .ok (.iaload, 1) := by decide +kernel
theorem dX12_sumOver_23 : decode cX12_sumOver 23 = .ok (.iadd, 1) := by decide +kernel
theorem dX12_sumOver_24 : decode cX12_sumOver 24 = .ok (.istore_n 2, 1) := by decide +kernel
theorem dX12_sumOver_25 : decode cX12_sumOver 25 = .ok (.iinc 3 1, 3) := by decide +kernel
theorem dX12_sumOver_28 : decode cX12_sumOver 28 = .ok (.goto (-24), 3) := by decide +kernel
theorem dX12_sumOver_31 : decode cX12_sumOver 31 = .ok (.iload_n 2, 1) := by decide +kernel
theorem dX12_sumOver_32 : decode cX12_sumOver 32 = .ok (.ireturn, 1) := by decide +kernel
def m_sumOver_L4 (N : Nat) (a1 : Int) (M : jMem) (h4 : (Int × Int) → Option Int) : Int × Int → Option Int
  | (x1, x2) => (if x2 < (M 10 1) then jchk (0 ≤ (w32 (a1 + x2)) ∧ (w32 (a1 + x2)) < 112) <| jlt ((w32 (x1 + ((M 10 ((w32 (a1 + x2)))))))) fun v4 => h4 (v4, (w32 (x2 + 1))) else some x1)
def m_sumOver (N : Nat) (a1 : Int) (M : jMem) : Option Int := jfix N (m_sumOver_L4 N a1 M) (0, 0)
theorem c_m_sumOver {l : Launch} {g : jG} (N : Nat) (a1 : Int) (M : jMem)  : ∀ o, m_sumOver N a1 M = some o → jCt l g jTM yX12_sumOver cX12_sumOver 4 (some .int) 0 1 [(2, 0), (0, a1)] M (o, M) := by
  refine jMet (own := RX12) (em := (fun r => (r, M))) (L := [(0, 2, 0), (1, 0, a1)]) (by decide +kernel) rfl (Nat.le_of_ble_eq_true rfl) rfl (fun K hR => ?_)
  unfold m_sumOver
  refine z_iconst (pc := 0) hR dX12_sumOver_0 rfl ?_
  refine z_istore_n (pc := 1) hR (lv' := [(2, 0, 0), (0, 2, 0), (1, 0, a1)]) dX12_sumOver_1 rfl (by decide) rfl ?_
  refine z_iconst (pc := 2) hR dX12_sumOver_2 rfl ?_
  refine z_istore_n (pc := 3) hR (lv' := [(3, 0, 0), (2, 0, 0), (0, 2, 0), (1, 0, a1)]) dX12_sumOver_3 rfl (by decide) rfl ?_
  refine z_pick (pc := 4) (lv' := [(0, 2, 0), (1, 0, a1), (2, 0, 0), (3, 0, 0)]) hR [2, 3, 1, 0] rfl ?_
  refine z_fix (σ := Int × Int) (lv := fun s => [(0, 2, 0), (1, 0, a1), (2, 0, s.1), (3, 0, s.2)]) (st := fun _ => []) (M := fun _ => M) (fun h4 hh4 => ?_) N (0, 0)
  rintro ⟨x1, x2⟩
  show jZ K (fun r => (r, M)) 4 [(0, 2, 0), (1, 0, a1), (2, 0, x1), (3, 0, x2)] [] M _
  unfold m_sumOver_L4
  refine z_iload_n (pc := 4) hR 3 dX12_sumOver_4 rfl rfl ?_
  refine z_aload_n (pc := 5) hR 0 dX12_sumOver_5 rfl rfl ?_
  refine z_getr (pc := 6) hR (c0 := 10) (r := 10) jf_RX12_39 kmo_0 (by decide) rfl rfl dX12_sumOver_6 ?_
  refine z_iconst (pc := 9) hR dX12_sumOver_9 rfl ?_
  refine z_iald (pc := 10) hR (n := 112) kma_10 (by decide) (by decide) dX12_sumOver_10 ?_
  refine z_icmpge (pc := 11) (tgt := 31) hR dX12_sumOver_11 (by decide) ?_ ?_
  · refine z_iload_n (pc := 31) hR 2 dX12_sumOver_31 rfl rfl ?_
    exact z_ireturn (pc := 32) hR rfl rfl dX12_sumOver_32 rfl
  · refine z_iload_n (pc := 14) hR 2 dX12_sumOver_14 rfl rfl ?_
    refine z_aload_n (pc := 15) hR 0 dX12_sumOver_15 rfl rfl ?_
    refine z_getr (pc := 16) hR (c0 := 10) (r := 10) jf_RX12_39 kmo_0 (by decide) rfl rfl dX12_sumOver_16 ?_
    refine z_iload_n (pc := 19) hR 1 dX12_sumOver_19 rfl rfl ?_
    refine z_iload_n (pc := 20) hR 3 dX12_sumOver_20 rfl rfl ?_
    refine z_iadd (pc := 21) hR dX12_sumOver_21 ?_
    refine z_chk (fun hc3 => ?_)
    refine z_iald (pc := 22) hR (n := 112) kma_10 hc3.1 hc3.2 dX12_sumOver_22 ?_
    refine z_iadd (pc := 23) hR dX12_sumOver_23 ?_
    refine z_let1 (fun v4 => ?_)
    refine z_istore_n (pc := 24) hR (lv' := [(2, 0, v4), (0, 2, 0), (1, 0, a1), (3, 0, x2)]) dX12_sumOver_24 rfl (by decide) rfl ?_
    refine z_iinc (pc := 25) hR (j := 3) (lv' := [(3, 0, (w32 (x2 + 1))), (2, 0, v4), (0, 2, 0), (1, 0, a1)]) dX12_sumOver_25 rfl (by decide) rfl ?_
    refine z_goto (pc := 28) (tgt := 4) hR dX12_sumOver_28 (by decide) ?_
    refine z_pick (pc := 4) (lv' := [(0, 2, 0), (1, 0, a1), (2, 0, v4), (3, 0, (w32 (x2 + 1)))]) hR [2, 3, 1, 0] rfl ?_
    exact hh4 (v4, (w32 (x2 + 1)))
theorem dX12_dryMany_0 : decode cX12_dryMany 0 = .ok (.iconst 0, 1) := by decide +kernel
theorem dX12_dryMany_1 : decode cX12_dryMany 1 = .ok (.istore_n 1, 1) := by decide +kernel
theorem dX12_dryMany_2 : decode cX12_dryMany 2 = .ok (.iconst 0, 1) := by decide +kernel
theorem dX12_dryMany_3 : decode cX12_dryMany 3 = .ok (.istore_n 2, 1) := by decide +kernel
theorem dX12_dryMany_4 : decode cX12_dryMany 4 = .ok (.iload_n 2, 1) := by decide +kernel
theorem dX12_dryMany_5 : decode cX12_dryMany 5 = .ok (.aload_n 0, 1) := by decide +kernel
theorem dX12_dryMany_6 : decode cX12_dryMany 6 = .ok (.getfield 39, 3) := by decide +kernel
theorem dX12_dryMany_9 : decode cX12_dryMany 9 = .ok (.iconst 1, 1) := by decide +kernel
theorem dX12_dryMany_10 : decode cX12_dryMany 10 = .ok (.iaload, 1) := by decide +kernel
theorem dX12_dryMany_11 : decode cX12_dryMany 11 = .ok (.if_icmp .ge 29, 3) := by decide +kernel
theorem dX12_dryMany_14 : decode cX12_dryMany 14 = .ok (.iload_n 1, 1) := by decide +kernel
theorem dX12_dryMany_15 : decode cX12_dryMany 15 = .ok (.aload_n 0, 1) := by decide +kernel
theorem dX12_dryMany_16 : decode cX12_dryMany 16 = .ok (.getfield 39, 3) := by decide +kernel
theorem dX12_dryMany_19 : decode cX12_dryMany 19 = .ok (.bipush 25, 2) := by decide +kernel
theorem dX12_dryMany_21 : decode cX12_dryMany 21 = .ok (.iload_n 2, 1) := by decide +kernel
theorem dX12_dryMany_22 : decode cX12_dryMany 22 = .ok (.iadd, 1) := by decide +kernel
theorem dX12_dryMany_23 : decode cX12_dryMany 23 = .ok (.iaload, 1) := by decide +kernel
theorem dX12_dryMany_24 : decode cX12_dryMany 24 = .ok (.ifCond .ne 7, 3) := by decide +kernel
theorem dX12_dryMany_27 : decode cX12_dryMany 27 = .ok (.iconst 1, 1) := by decide +kernel
theorem dX12_dryMany_28 : decode cX12_dryMany 28 = .ok (.goto 4, 3) := by decide +kernel
theorem dX12_dryMany_31 : decode cX12_dryMany 31 = .ok (.iconst 0, 1) := by decide +kernel
theorem dX12_dryMany_32 : decode cX12_dryMany 32 = .ok (.iadd, 1) := by decide +kernel
theorem dX12_dryMany_33 : decode cX12_dryMany 33 = .ok (.istore_n 1, 1) := by decide +kernel
theorem dX12_dryMany_34 : decode cX12_dryMany 34 = .ok (.iinc 2 1, 3) := by decide +kernel
theorem dX12_dryMany_37 : decode cX12_dryMany 37 = .ok (.goto (-33), 3) := by decide +kernel
theorem dX12_dryMany_40 : decode cX12_dryMany 40 = .ok (.iload_n 1, 1) := by decide +kernel
theorem dX12_dryMany_41 : decode cX12_dryMany 41 = .ok (.ireturn, 1) := by decide +kernel
def m_dryMany_L4 (N : Nat) (M : jMem) (h4 : (Int × Int) → Option Int) : Int × Int → Option Int
  | (x1, x2) => (if x2 < (M 10 1) then jchk (0 ≤ (w32 (25 + x2)) ∧ (w32 (25 + x2)) < 112) <| (if (M 10 ((w32 (25 + x2)))) = 0 then jlt ((w32 (x1 + 1))) fun v5 => h4 (v5, (w32 (x2 + 1))) else jlt ((w32 (x1 + 0))) fun v4 => h4 (v4, (w32 (x2 + 1)))) else some x1)
def m_dryMany (N : Nat) (M : jMem) : Option Int := jfix N (m_dryMany_L4 N M) (0, 0)
theorem c_m_dryMany {l : Launch} {g : jG} (N : Nat) (M : jMem)  : ∀ o, m_dryMany N  M = some o → jCt l g jTM yX12_dryMany cX12_dryMany 3 (some .int) 0 1 [(2, 0)] M (o, M) := by
  refine jMet (own := RX12) (em := (fun r => (r, M))) (L := [(0, 2, 0)]) (by decide +kernel) rfl (Nat.le_of_ble_eq_true rfl) rfl (fun K hR => ?_)
  unfold m_dryMany
  refine z_iconst (pc := 0) hR dX12_dryMany_0 rfl ?_
  refine z_istore_n (pc := 1) hR (lv' := [(1, 0, 0), (0, 2, 0)]) dX12_dryMany_1 rfl (by decide) rfl ?_
  refine z_iconst (pc := 2) hR dX12_dryMany_2 rfl ?_
  refine z_istore_n (pc := 3) hR (lv' := [(2, 0, 0), (1, 0, 0), (0, 2, 0)]) dX12_dryMany_3 rfl (by decide) rfl ?_
  refine z_pick (pc := 4) (lv' := [(0, 2, 0), (1, 0, 0), (2, 0, 0)]) hR [2, 1, 0] rfl ?_
  refine z_fix (σ := Int × Int) (lv := fun s => [(0, 2, 0), (1, 0, s.1), (2, 0, s.2)]) (st := fun _ => []) (M := fun _ => M) (fun h4 hh4 => ?_) N (0, 0)
  rintro ⟨x1, x2⟩
  show jZ K (fun r => (r, M)) 4 [(0, 2, 0), (1, 0, x1), (2, 0, x2)] [] M _
  unfold m_dryMany_L4
  refine z_iload_n (pc := 4) hR 2 dX12_dryMany_4 rfl rfl ?_
  refine z_aload_n (pc := 5) hR 0 dX12_dryMany_5 rfl rfl ?_
  refine z_getr (pc := 6) hR (c0 := 10) (r := 10) jf_RX12_39 kmo_0 (by decide) rfl rfl dX12_dryMany_6 ?_
  refine z_iconst (pc := 9) hR dX12_dryMany_9 rfl ?_
  refine z_iald (pc := 10) hR (n := 112) kma_10 (by decide) (by decide) dX12_dryMany_10 ?_
  refine z_icmpge (pc := 11) (tgt := 40) hR dX12_dryMany_11 (by decide) ?_ ?_
  · refine z_iload_n (pc := 40) hR 1 dX12_dryMany_40 rfl rfl ?_
    exact z_ireturn (pc := 41) hR rfl rfl dX12_dryMany_41 rfl
  · refine z_iload_n (pc := 14) hR 1 dX12_dryMany_14 rfl rfl ?_
    refine z_aload_n (pc := 15) hR 0 dX12_dryMany_15 rfl rfl ?_
    refine z_getr (pc := 16) hR (c0 := 10) (r := 10) jf_RX12_39 kmo_0 (by decide) rfl rfl dX12_dryMany_16 ?_
    refine z_bipush (pc := 19) hR dX12_dryMany_19 rfl ?_
    refine z_iload_n (pc := 21) hR 2 dX12_dryMany_21 rfl rfl ?_
    refine z_iadd (pc := 22) hR dX12_dryMany_22 ?_
    refine z_chk (fun hc3 => ?_)
    refine z_iald (pc := 23) hR (n := 112) kma_10 hc3.1 hc3.2 dX12_dryMany_23 ?_
    refine z_ifne (pc := 24) (tgt := 31) hR dX12_dryMany_24 (by decide) ?_ ?_
    · refine z_iconst (pc := 31) hR dX12_dryMany_31 rfl ?_
      refine z_iadd (pc := 32) hR dX12_dryMany_32 ?_
      refine z_let1 (fun v4 => ?_)
      refine z_istore_n (pc := 33) hR (lv' := [(1, 0, v4), (0, 2, 0), (2, 0, x2)]) dX12_dryMany_33 rfl (by decide) rfl ?_
      refine z_iinc (pc := 34) hR (j := 2) (lv' := [(2, 0, (w32 (x2 + 1))), (1, 0, v4), (0, 2, 0)]) dX12_dryMany_34 rfl (by decide) rfl ?_
      refine z_goto (pc := 37) (tgt := 4) hR dX12_dryMany_37 (by decide) ?_
      refine z_pick (pc := 4) (lv' := [(0, 2, 0), (1, 0, v4), (2, 0, (w32 (x2 + 1)))]) hR [2, 1, 0] rfl ?_
      exact hh4 (v4, (w32 (x2 + 1)))
    · refine z_iconst (pc := 27) hR dX12_dryMany_27 rfl ?_
      refine z_goto (pc := 28) (tgt := 32) hR dX12_dryMany_28 (by decide) ?_
      refine z_iadd (pc := 32) hR dX12_dryMany_32 ?_
      refine z_let1 (fun v5 => ?_)
      refine z_istore_n (pc := 33) hR (lv' := [(1, 0, v5), (0, 2, 0), (2, 0, x2)]) dX12_dryMany_33 rfl (by decide) rfl ?_
      refine z_iinc (pc := 34) hR (j := 2) (lv' := [(2, 0, (w32 (x2 + 1))), (1, 0, v5), (0, 2, 0)]) dX12_dryMany_34 rfl (by decide) rfl ?_
      refine z_goto (pc := 37) (tgt := 4) hR dX12_dryMany_37 (by decide) ?_
      refine z_pick (pc := 4) (lv' := [(0, 2, 0), (1, 0, v5), (2, 0, (w32 (x2 + 1)))]) hR [2, 1, 0] rfl ?_
      exact hh4 (v5, (w32 (x2 + 1)))
theorem dX12_twosMany_0 : decode cX12_twosMany 0 = .ok (.iconst 0, 1) := by decide +kernel
theorem dX12_twosMany_1 : decode cX12_twosMany 1 = .ok (.istore_n 1, 1) := by decide +kernel
theorem dX12_twosMany_2 : decode cX12_twosMany 2 = .ok (.iconst 0, 1) := by decide +kernel
theorem dX12_twosMany_3 : decode cX12_twosMany 3 = .ok (.istore_n 2, 1) := by decide +kernel
theorem dX12_twosMany_4 : decode cX12_twosMany 4 = .ok (.iload_n 2, 1) := by decide +kernel
theorem dX12_twosMany_5 : decode cX12_twosMany 5 = .ok (.aload_n 0, 1) := by decide +kernel
theorem dX12_twosMany_6 : decode cX12_twosMany 6 = .ok (.getfield 39, 3) := by decide +kernel
theorem dX12_twosMany_9 : decode cX12_twosMany 9 = .ok (.iconst 1, 1) := by decide +kernel
theorem dX12_twosMany_10 : decode cX12_twosMany 10 = .ok (.iaload, 1) := by decide +kernel
theorem dX12_twosMany_11 : decode cX12_twosMany 11 = .ok (.if_icmp .ge 46, 3) := by decide +kernel
theorem dX12_twosMany_14 : decode cX12_twosMany 14 = .ok (.iload_n 2, 1) := by decide +kernel
theorem dX12_twosMany_15 : decode cX12_twosMany 15 = .ok (.iconst 1, 1) := by decide +kernel
theorem dX12_twosMany_16 : decode cX12_twosMany 16 = .ok (.iadd, 1) := by decide +kernel
theorem dX12_twosMany_17 : decode cX12_twosMany 17 = .ok (.istore_n 3, 1) := by decide +kernel
theorem dX12_twosMany_18 : decode cX12_twosMany 18 = .ok (.iload_n 3, 1) := by decide +kernel
theorem dX12_twosMany_19 : decode cX12_twosMany 19 = .ok (.aload_n 0, 1) := by decide +kernel
theorem dX12_twosMany_20 : decode cX12_twosMany 20 = .ok (.getfield 39, 3) := by decide +kernel
theorem dX12_twosMany_23 : decode cX12_twosMany 23 = .ok (.iconst 1, 1) := by decide +kernel
theorem dX12_twosMany_24 : decode cX12_twosMany 24 = .ok (.iaload, 1) := by decide +kernel
theorem dX12_twosMany_25 : decode cX12_twosMany 25 = .ok (.if_icmp .ge 26, 3) := by decide +kernel
theorem dX12_twosMany_28 : decode cX12_twosMany 28 = .ok (.iload_n 1, 1) := by decide +kernel
theorem dX12_twosMany_29 : decode cX12_twosMany 29 = .ok (.aload_n 0, 1) := by decide +kernel
theorem dX12_twosMany_30 : decode cX12_twosMany 30 = .ok (.iload_n 2, 1) := by decide +kernel
theorem dX12_twosMany_31 : decode cX12_twosMany 31 = .ok (.iload_n 3, 1) := by decide +kernel
theorem dX12_twosMany_32 : decode cX12_twosMany 32 = .ok (.invokevirtual 304, 3) := by decide +kernel
theorem dX12_twosMany_35 : decode cX12_twosMany 35 = .ok (.ifCond .eq 7, 3) := by decide +kernel
theorem dX12_twosMany_38 : decode cX12_twosMany 38 = .ok (.iconst 1, 1) := by decide +kernel
theorem dX12_twosMany_39 : decode cX12_twosMany 39 = .ok (.goto 4, 3) := by decide +kernel
theorem dX12_twosMany_42 : decode cX12_twosMany 42 = .ok (.iconst 0, 1) := by decide +kernel
theorem dX12_twosMany_43 : decode cX12_twosMany 43 = .ok (.iadd, 1) := by decide +kernel
theorem dX12_twosMany_44 : decode cX12_twosMany 44 = .ok (.istore_n 1, 1) := by decide +kernel
theorem dX12_twosMany_45 : decode cX12_twosMany 45 = .ok (.iinc 3 1, 3) := by decide +kernel
theorem dX12_twosMany_48 : decode cX12_twosMany 48 = .ok (.goto (-30), 3) := by decide +kernel
theorem dX12_twosMany_51 : decode cX12_twosMany 51 = .ok (.iinc 2 1, 3) := by decide +kernel
theorem dX12_twosMany_54 : decode cX12_twosMany 54 = .ok (.goto (-50), 3) := by decide +kernel
theorem dX12_twosMany_57 : decode cX12_twosMany 57 = .ok (.iload_n 1, 1) := by decide +kernel
theorem dX12_twosMany_58 : decode cX12_twosMany 58 = .ok (.ireturn, 1) := by decide +kernel
def m_twosMany_L18 (N : Nat) (M : jMem) (x2 : Int) (h4 : (Int × Int) → Option Int) (h18 : (Int × Int) → Option Int) : Int × Int → Option Int
  | (x4, x5) => (if x5 < (M 10 1) then (m_canWed N x2 x5 M).bind fun r6 => (if r6 = 0 then jlt ((w32 (x4 + 0))) fun v7 => h18 (v7, (w32 (x5 + 1))) else jlt ((w32 (x4 + 1))) fun v8 => h18 (v8, (w32 (x5 + 1)))) else h4 (x4, (w32 (x2 + 1))))
def m_twosMany_L4 (N : Nat) (M : jMem) (h4 : (Int × Int) → Option Int) : Int × Int → Option Int
  | (x1, x2) => (if x2 < (M 10 1) then jlt ((w32 (x2 + 1))) fun v3 => jfix N (m_twosMany_L18 N M x2 h4) (x1, v3) else some x1)
def m_twosMany (N : Nat) (M : jMem) : Option Int := jfix N (m_twosMany_L4 N M) (0, 0)
theorem c_m_twosMany {l : Launch} {g : jG} (N : Nat) (M : jMem)  : ∀ o, m_twosMany N  M = some o → jCt l g jTM yX12_twosMany cX12_twosMany 4 (some .int) 0 7 [(2, 0)] M (o, M) := by
  refine jMet (own := RX12) (em := (fun r => (r, M))) (L := [(0, 2, 0)]) (by decide +kernel) rfl (Nat.le_of_ble_eq_true rfl) rfl (fun K hR => ?_)
  unfold m_twosMany
  refine z_iconst (pc := 0) hR dX12_twosMany_0 rfl ?_
  refine z_istore_n (pc := 1) hR (lv' := [(1, 0, 0), (0, 2, 0)]) dX12_twosMany_1 rfl (by decide) rfl ?_
  refine z_iconst (pc := 2) hR dX12_twosMany_2 rfl ?_
  refine z_istore_n (pc := 3) hR (lv' := [(2, 0, 0), (1, 0, 0), (0, 2, 0)]) dX12_twosMany_3 rfl (by decide) rfl ?_
  refine z_pick (pc := 4) (lv' := [(0, 2, 0), (1, 0, 0), (2, 0, 0)]) hR [2, 1, 0] rfl ?_
  refine z_fix (σ := Int × Int) (lv := fun s => [(0, 2, 0), (1, 0, s.1), (2, 0, s.2)]) (st := fun _ => []) (M := fun _ => M) (fun h4 hh4 => ?_) N (0, 0)
  rintro ⟨x1, x2⟩
  show jZ K (fun r => (r, M)) 4 [(0, 2, 0), (1, 0, x1), (2, 0, x2)] [] M _
  unfold m_twosMany_L4
  refine z_iload_n (pc := 4) hR 2 dX12_twosMany_4 rfl rfl ?_
  refine z_aload_n (pc := 5) hR 0 dX12_twosMany_5 rfl rfl ?_
  refine z_getr (pc := 6) hR (c0 := 10) (r := 10) jf_RX12_39 kmo_0 (by decide) rfl rfl dX12_twosMany_6 ?_
  refine z_iconst (pc := 9) hR dX12_twosMany_9 rfl ?_
  refine z_iald (pc := 10) hR (n := 112) kma_10 (by decide) (by decide) dX12_twosMany_10 ?_
  refine z_icmpge (pc := 11) (tgt := 57) hR dX12_twosMany_11 (by decide) ?_ ?_
  · refine z_iload_n (pc := 57) hR 1 dX12_twosMany_57 rfl rfl ?_
    exact z_ireturn (pc := 58) hR rfl rfl dX12_twosMany_58 rfl
  · refine z_iload_n (pc := 14) hR 2 dX12_twosMany_14 rfl rfl ?_
    refine z_iconst (pc := 15) hR dX12_twosMany_15 rfl ?_
    refine z_iadd (pc := 16) hR dX12_twosMany_16 ?_
    refine z_let1 (fun v3 => ?_)
    refine z_istore_n (pc := 17) hR (lv' := [(3, 0, v3), (0, 2, 0), (1, 0, x1), (2, 0, x2)]) dX12_twosMany_17 rfl (by decide) rfl ?_
    refine z_pick (pc := 18) (lv' := [(0, 2, 0), (1, 0, x1), (2, 0, x2), (3, 0, v3)]) hR [1, 2, 3, 0] rfl ?_
    refine z_fix (σ := Int × Int) (lv := fun s => [(0, 2, 0), (1, 0, s.1), (2, 0, x2), (3, 0, s.2)]) (st := fun _ => []) (M := fun _ => M) (fun h18 hh18 => ?_) N (x1, v3)
    rintro ⟨x4, x5⟩
    show jZ K (fun r => (r, M)) 18 [(0, 2, 0), (1, 0, x4), (2, 0, x2), (3, 0, x5)] [] M _
    unfold m_twosMany_L18
    refine z_iload_n (pc := 18) hR 3 dX12_twosMany_18 rfl rfl ?_
    refine z_aload_n (pc := 19) hR 0 dX12_twosMany_19 rfl rfl ?_
    refine z_getr (pc := 20) hR (c0 := 10) (r := 10) jf_RX12_39 kmo_0 (by decide) rfl rfl dX12_twosMany_20 ?_
    refine z_iconst (pc := 23) hR dX12_twosMany_23 rfl ?_
    refine z_iald (pc := 24) hR (n := 112) kma_10 (by decide) (by decide) dX12_twosMany_24 ?_
    refine z_icmpge (pc := 25) (tgt := 51) hR dX12_twosMany_25 (by decide) ?_ ?_
    · refine z_iinc (pc := 51) hR (j := 2) (lv' := [(2, 0, (w32 (x2 + 1))), (0, 2, 0), (1, 0, x4), (3, 0, x5)]) dX12_twosMany_51 rfl (by decide) rfl ?_
      refine z_goto (pc := 54) (tgt := 4) hR dX12_twosMany_54 (by decide) ?_
      refine z_pick (pc := 4) (lv' := [(0, 2, 0), (1, 0, x4), (2, 0, (w32 (x2 + 1)))]) hR [1, 2, 0] rfl ?_
      exact hh4 (x4, (w32 (x2 + 1)))
    · refine z_iload_n (pc := 28) hR 1 dX12_twosMany_28 rfl rfl ?_
      refine z_aload_n (pc := 29) hR 0 dX12_twosMany_29 rfl rfl ?_
      refine z_iload_n (pc := 30) hR 2 dX12_twosMany_30 rfl rfl ?_
      refine z_iload_n (pc := 31) hR 3 dX12_twosMany_31 rfl rfl ?_
      refine z_callvp (pc := 32) hR (As := [(0, x2), (0, x5)]) (st := [(0, x4)]) jm_X12_canWed jl_RX12_304 kmo_0 (by decide) rfl (by decide) (c_m_canWed N x2 x5 M) rfl (by decide) (by decide) rfl (Nat.le_of_ble_eq_true rfl) dX12_twosMany_32 (fun r6 => ?_)
      refine z_ifeq (pc := 35) (tgt := 42) hR dX12_twosMany_35 (by decide) ?_ ?_
      · refine z_iconst (pc := 42) hR dX12_twosMany_42 rfl ?_
        refine z_iadd (pc := 43) hR dX12_twosMany_43 ?_
        refine z_let1 (fun v7 => ?_)
        refine z_istore_n (pc := 44) hR (lv' := [(1, 0, v7), (0, 2, 0), (2, 0, x2), (3, 0, x5)]) dX12_twosMany_44 rfl (by decide) rfl ?_
        refine z_iinc (pc := 45) hR (j := 3) (lv' := [(3, 0, (w32 (x5 + 1))), (1, 0, v7), (0, 2, 0), (2, 0, x2)]) dX12_twosMany_45 rfl (by decide) rfl ?_
        refine z_goto (pc := 48) (tgt := 18) hR dX12_twosMany_48 (by decide) ?_
        refine z_pick (pc := 18) (lv' := [(0, 2, 0), (1, 0, v7), (2, 0, x2), (3, 0, (w32 (x5 + 1)))]) hR [2, 1, 3, 0] rfl ?_
        exact hh18 (v7, (w32 (x5 + 1)))
      · refine z_iconst (pc := 38) hR dX12_twosMany_38 rfl ?_
        refine z_goto (pc := 39) (tgt := 43) hR dX12_twosMany_39 (by decide) ?_
        refine z_iadd (pc := 43) hR dX12_twosMany_43 ?_
        refine z_let1 (fun v8 => ?_)
        refine z_istore_n (pc := 44) hR (lv' := [(1, 0, v8), (0, 2, 0), (2, 0, x2), (3, 0, x5)]) dX12_twosMany_44 rfl (by decide) rfl ?_
        refine z_iinc (pc := 45) hR (j := 3) (lv' := [(3, 0, (w32 (x5 + 1))), (1, 0, v8), (0, 2, 0), (2, 0, x2)]) dX12_twosMany_45 rfl (by decide) rfl ?_
        refine z_goto (pc := 48) (tgt := 18) hR dX12_twosMany_48 (by decide) ?_
        refine z_pick (pc := 18) (lv' := [(0, 2, 0), (1, 0, v8), (2, 0, x2), (3, 0, (w32 (x5 + 1)))]) hR [2, 1, 3, 0] rfl ?_
        exact hh18 (v8, (w32 (x5 + 1)))
theorem dX12_farmOf_0 : decode cX12_farmOf 0 = .ok (.iconst 0, 1) := by decide +kernel
theorem dX12_farmOf_1 : decode cX12_farmOf 1 = .ok (.istore_n 2, 1) := by decide +kernel
theorem dX12_farmOf_2 : decode cX12_farmOf 2 = .ok (.aload_n 0, 1) := by decide +kernel
theorem dX12_farmOf_3 : decode cX12_farmOf 3 = .ok (.getfield 39, 3) := by decide +kernel
theorem dX12_farmOf_6 : decode cX12_farmOf 6 = .ok (.bipush 32, 2) := by decide +kernel
theorem dX12_farmOf_8 : decode cX12_farmOf 8 = .ok (.iload_n 2, 1) := by decide +kernel
theorem dX12_farmOf_9 : decode cX12_farmOf 9 = .ok (.iadd, 1) := by decide +kernel
theorem dX12_farmOf_10 : decode cX12_farmOf 10 = .ok (.iaload, 1) := by decide +kernel
theorem dX12_farmOf_11 : decode cX12_farmOf 11 = .ok (.iload_n 1, 1) := by decide +kernel
theorem dX12_farmOf_12 : decode cX12_farmOf 12 = .ok (.if_icmp .eq 9, 3) := by decide +kernel
theorem dX12_farmOf_15 : decode cX12_farmOf 15 = .ok (.iinc 2 1, 3) := by decide +kernel
theorem dX12_farmOf_18 : decode cX12_farmOf 18 = .ok (.goto (-16), 3) := by decide +kernel
theorem dX12_farmOf_21 : decode cX12_farmOf 21 = .ok (.iload_n 2, 1) := by decide +kernel
theorem dX12_farmOf_22 : decode cX12_farmOf 22 = .ok (.ireturn, 1) := by decide +kernel
def m_farmOf_L2 (N : Nat) (a1 : Int) (M : jMem) (h2 : Int → Option Int) : Int → Option Int
  | x1 => jchk (0 ≤ (w32 (32 + x1)) ∧ (w32 (32 + x1)) < 112) <| (if (M 10 ((w32 (32 + x1)))) = a1 then some x1 else h2 ((w32 (x1 + 1))))
def m_farmOf (N : Nat) (a1 : Int) (M : jMem) : Option Int := jfix N (m_farmOf_L2 N a1 M) 0
theorem c_m_farmOf {l : Launch} {g : jG} (N : Nat) (a1 : Int) (M : jMem)  : ∀ o, m_farmOf N a1 M = some o → jCt l g jTM yX12_farmOf cX12_farmOf 3 (some .int) 0 1 [(2, 0), (0, a1)] M (o, M) := by
  refine jMet (own := RX12) (em := (fun r => (r, M))) (L := [(0, 2, 0), (1, 0, a1)]) (by decide +kernel) rfl (Nat.le_of_ble_eq_true rfl) rfl (fun K hR => ?_)
  unfold m_farmOf
  refine z_iconst (pc := 0) hR dX12_farmOf_0 rfl ?_
  refine z_istore_n (pc := 1) hR (lv' := [(2, 0, 0), (0, 2, 0), (1, 0, a1)]) dX12_farmOf_1 rfl (by decide) rfl ?_
  refine z_pick (pc := 2) (lv' := [(0, 2, 0), (1, 0, a1), (2, 0, 0)]) hR [1, 2, 0] rfl ?_
  refine z_fix (σ := Int) (lv := fun s => [(0, 2, 0), (1, 0, a1), (2, 0, s)]) (st := fun _ => []) (M := fun _ => M) (fun h2 hh2 => ?_) N 0
  intro x1
  show jZ K (fun r => (r, M)) 2 [(0, 2, 0), (1, 0, a1), (2, 0, x1)] [] M _
  unfold m_farmOf_L2
  refine z_aload_n (pc := 2) hR 0 dX12_farmOf_2 rfl rfl ?_
  refine z_getr (pc := 3) hR (c0 := 10) (r := 10) jf_RX12_39 kmo_0 (by decide) rfl rfl dX12_farmOf_3 ?_
  refine z_bipush (pc := 6) hR dX12_farmOf_6 rfl ?_
  refine z_iload_n (pc := 8) hR 2 dX12_farmOf_8 rfl rfl ?_
  refine z_iadd (pc := 9) hR dX12_farmOf_9 ?_
  refine z_chk (fun hc2 => ?_)
  refine z_iald (pc := 10) hR (n := 112) kma_10 hc2.1 hc2.2 dX12_farmOf_10 ?_
  refine z_iload_n (pc := 11) hR 1 dX12_farmOf_11 rfl rfl ?_
  refine z_icmpeq (pc := 12) (tgt := 21) hR dX12_farmOf_12 (by decide) ?_ ?_
  · refine z_iload_n (pc := 21) hR 2 dX12_farmOf_21 rfl rfl ?_
    exact z_ireturn (pc := 22) hR rfl rfl dX12_farmOf_22 rfl
  · refine z_iinc (pc := 15) hR (j := 2) (lv' := [(2, 0, (w32 (x1 + 1))), (0, 2, 0), (1, 0, a1)]) dX12_farmOf_15 rfl (by decide) rfl ?_
    refine z_goto (pc := 18) (tgt := 2) hR dX12_farmOf_18 (by decide) ?_
    refine z_pick (pc := 2) (lv' := [(0, 2, 0), (1, 0, a1), (2, 0, (w32 (x1 + 1)))]) hR [1, 2, 0] rfl ?_
    exact hh2 ((w32 (x1 + 1)))
theorem dX12_lieNow_0 : decode cX12_lieNow 0 = .ok (.iconst 0, 1) := by decide +kernel
theorem dX12_lieNow_1 : decode cX12_lieNow 1 = .ok (.istore_n 1, 1) := by decide +kernel
theorem dX12_lieNow_2 : decode cX12_lieNow 2 = .ok (.iconst 0, 1) := by decide +kernel
theorem dX12_lieNow_3 : decode cX12_lieNow 3 = .ok (.istore_n 2, 1) := by decide +kernel
theorem dX12_lieNow_4 : decode cX12_lieNow 4 = .ok (.iload_n 2, 1) := by decide +kernel
theorem dX12_lieNow_5 : decode cX12_lieNow 5 = .ok (.aload_n 0, 1) := by decide +kernel
theorem dX12_lieNow_6 : decode cX12_lieNow 6 = .ok (.getfield 39, 3) := by decide +kernel
theorem dX12_lieNow_9 : decode cX12_lieNow 9 = .ok (.iconst 1, 1) := by decide +kernel
theorem dX12_lieNow_10 : decode cX12_lieNow 10 = .ok (.iaload, 1) := by decide +kernel
theorem dX12_lieNow_11 : decode cX12_lieNow 11 = .ok (.if_icmp .ge 26, 3) := by decide +kernel
theorem dX12_lieNow_14 : decode cX12_lieNow 14 = .ok (.bipush 10, 2) := by decide +kernel
theorem dX12_lieNow_16 : decode cX12_lieNow 16 = .ok (.iload_n 1, 1) := by decide +kernel
theorem dX12_lieNow_17 : decode cX12_lieNow 17 = .ok (.imul, 1) := by decide +kernel
theorem dX12_lieNow_18 : decode cX12_lieNow 18 = .ok (.aload_n 0, 1) := by decide +kernel
theorem dX12_lieNow_19 : decode cX12_lieNow 19 = .ok (.getfield 39, 3) := by decide +kernel
theorem dX12_lieNow_22 : decode cX12_lieNow 22 = .ok (.bipush 32, 2) := by decide +kernel
theorem dX12_lieNow_24 : decode cX12_lieNow 24 = .ok (.iload_n 2, 1) := by decide +kernel
theorem dX12_lieNow_25 : decode cX12_lieNow 25 = .ok (.iadd, 1) := by decide +kernel
theorem dX12_lieNow_26 : decode cX12_lieNow 26 = .ok (.iaload, 1) := by decide +kernel
theorem dX12_lieNow_27 : decode cX12_lieNow 27 = .ok (.iadd, 1) := by decide +kernel
theorem dX12_lieNow_28 : decode cX12_lieNow 28 = .ok (.iconst 1, 1) := by decide +kernel
theorem dX12_lieNow_29 : decode cX12_lieNow 29 = .ok (.iadd, 1) := by decide +kernel
theorem dX12_lieNow_30 : decode cX12_lieNow 30 = .ok (.istore_n 1, 1) := by decide +kernel
theorem dX12_lieNow_31 : decode cX12_lieNow 31 = .ok (.iinc 2 1, 3) := by decide +kernel
theorem dX12_lieNow_34 : decode cX12_lieNow 34 = .ok (.goto (-30), 3) := by decide +kernel
theorem dX12_lieNow_37 : decode cX12_lieNow 37 = .ok (.iload_n 1, 1) := by decide +kernel
theorem dX12_lieNow_38 : decode cX12_lieNow 38 = .ok (.ireturn, 1) := by decide +kernel
def m_lieNow_L4 (N : Nat) (M : jMem) (h4 : (Int × Int) → Option Int) : Int × Int → Option Int
  | (x1, x2) => (if x2 < (M 10 1) then jchk (0 ≤ (w32 (32 + x2)) ∧ (w32 (32 + x2)) < 112) <| jlt ((w32 (((w32 (((w32 (10 * x1))) + ((M 10 ((w32 (32 + x2)))))))) + 1))) fun v4 => h4 (v4, (w32 (x2 + 1))) else some x1)
def m_lieNow (N : Nat) (M : jMem) : Option Int := jfix N (m_lieNow_L4 N M) (0, 0)
theorem c_m_lieNow {l : Launch} {g : jG} (N : Nat) (M : jMem)  : ∀ o, m_lieNow N  M = some o → jCt l g jTM yX12_lieNow cX12_lieNow 3 (some .int) 0 1 [(2, 0)] M (o, M) := by
  refine jMet (own := RX12) (em := (fun r => (r, M))) (L := [(0, 2, 0)]) (by decide +kernel) rfl (Nat.le_of_ble_eq_true rfl) rfl (fun K hR => ?_)
  unfold m_lieNow
  refine z_iconst (pc := 0) hR dX12_lieNow_0 rfl ?_
  refine z_istore_n (pc := 1) hR (lv' := [(1, 0, 0), (0, 2, 0)]) dX12_lieNow_1 rfl (by decide) rfl ?_
  refine z_iconst (pc := 2) hR dX12_lieNow_2 rfl ?_
  refine z_istore_n (pc := 3) hR (lv' := [(2, 0, 0), (1, 0, 0), (0, 2, 0)]) dX12_lieNow_3 rfl (by decide) rfl ?_
  refine z_pick (pc := 4) (lv' := [(0, 2, 0), (1, 0, 0), (2, 0, 0)]) hR [2, 1, 0] rfl ?_
  refine z_fix (σ := Int × Int) (lv := fun s => [(0, 2, 0), (1, 0, s.1), (2, 0, s.2)]) (st := fun _ => []) (M := fun _ => M) (fun h4 hh4 => ?_) N (0, 0)
  rintro ⟨x1, x2⟩
  show jZ K (fun r => (r, M)) 4 [(0, 2, 0), (1, 0, x1), (2, 0, x2)] [] M _
  unfold m_lieNow_L4
  refine z_iload_n (pc := 4) hR 2 dX12_lieNow_4 rfl rfl ?_
  refine z_aload_n (pc := 5) hR 0 dX12_lieNow_5 rfl rfl ?_
  refine z_getr (pc := 6) hR (c0 := 10) (r := 10) jf_RX12_39 kmo_0 (by decide) rfl rfl dX12_lieNow_6 ?_
  refine z_iconst (pc := 9) hR dX12_lieNow_9 rfl ?_
  refine z_iald (pc := 10) hR (n := 112) kma_10 (by decide) (by decide) dX12_lieNow_10 ?_
  refine z_icmpge (pc := 11) (tgt := 37) hR dX12_lieNow_11 (by decide) ?_ ?_
  · refine z_iload_n (pc := 37) hR 1 dX12_lieNow_37 rfl rfl ?_
    exact z_ireturn (pc := 38) hR rfl rfl dX12_lieNow_38 rfl
  · refine z_bipush (pc := 14) hR dX12_lieNow_14 rfl ?_
    refine z_iload_n (pc := 16) hR 1 dX12_lieNow_16 rfl rfl ?_
    refine z_imul (pc := 17) hR dX12_lieNow_17 ?_
    refine z_aload_n (pc := 18) hR 0 dX12_lieNow_18 rfl rfl ?_
    refine z_getr (pc := 19) hR (c0 := 10) (r := 10) jf_RX12_39 kmo_0 (by decide) rfl rfl dX12_lieNow_19 ?_
    refine z_bipush (pc := 22) hR dX12_lieNow_22 rfl ?_
    refine z_iload_n (pc := 24) hR 2 dX12_lieNow_24 rfl rfl ?_
    refine z_iadd (pc := 25) hR dX12_lieNow_25 ?_
    refine z_chk (fun hc3 => ?_)
    refine z_iald (pc := 26) hR (n := 112) kma_10 hc3.1 hc3.2 dX12_lieNow_26 ?_
    refine z_iadd (pc := 27) hR dX12_lieNow_27 ?_
    refine z_iconst (pc := 28) hR dX12_lieNow_28 rfl ?_
    refine z_iadd (pc := 29) hR dX12_lieNow_29 ?_
    refine z_let1 (fun v4 => ?_)
    refine z_istore_n (pc := 30) hR (lv' := [(1, 0, v4), (0, 2, 0), (2, 0, x2)]) dX12_lieNow_30 rfl (by decide) rfl ?_
    refine z_iinc (pc := 31) hR (j := 2) (lv' := [(2, 0, (w32 (x2 + 1))), (1, 0, v4), (0, 2, 0)]) dX12_lieNow_31 rfl (by decide) rfl ?_
    refine z_goto (pc := 34) (tgt := 4) hR dX12_lieNow_34 (by decide) ?_
    refine z_pick (pc := 4) (lv' := [(0, 2, 0), (1, 0, v4), (2, 0, (w32 (x2 + 1)))]) hR [2, 1, 0] rfl ?_
    exact hh4 (v4, (w32 (x2 + 1)))
theorem dX12_force_0 : decode cX12_force 0 = .ok (.iload_n 1, 1) := by decide +kernel
theorem dX12_force_1 : decode cX12_force 1 = .ok (.iconst (-1), 1) := by decide +kernel
theorem dX12_force_2 : decode cX12_force 2 = .ok (.if_icmp .eq 14, 3) := by decide +kernel
theorem dX12_force_5 : decode cX12_force 5 = .ok (.aload_n 0, 1) := by decide +kernel
theorem dX12_force_6 : decode cX12_force 6 = .ok (.iload_n 1, 1) := by decide +kernel
theorem dX12_force_7 : decode cX12_force 7 = .ok (.invokevirtual 307, 3) := by decide +kernel
theorem dX12_force_10 : decode cX12_force 10 = .ok (.ifCond .ne 6, 3) := by decide +kernel
theorem dX12_force_13 : decode cX12_force 13 = .ok (.bipush (-2), 2) := by decide +kernel
theorem dX12_force_15 : decode cX12_force 15 = .ok (.ireturn, 1) := by decide +kernel
theorem dX12_force_16 : decode cX12_force 16 = .ok (.aload_n 0, 1) := by decide +kernel
theorem dX12_force_17 : decode cX12_force 17 = .ok (.getfield 42, 3) := by decide +kernel
theorem dX12_force_20 : decode cX12_force 20 = .ok (.istore_n 2, 1) := by decide +kernel
theorem dX12_force_21 : decode cX12_force 21 = .ok (.aload_n 0, 1) := by decide +kernel
theorem dX12_force_22 : decode cX12_force 22 = .ok (.iload_n 1, 1) := by decide +kernel
theorem dX12_force_23 : decode cX12_force 23 = .ok (.putfield 42, 3) := by decide +kernel
theorem dX12_force_26 : decode cX12_force 26 = .ok (.iload_n 2, 1) := by decide +kernel
theorem dX12_force_27 : decode cX12_force 27 = .ok (.ireturn, 1) := by decide +kernel
def m_force (N : Nat) (a1 : Int) (M : jMem) : Option (Int × jMem) := jlt (fun (_ : Unit) => jlt ((M 0 21)) fun v1 => jlt (up M 0 21 a1) fun M2 => some (v1, M2)) fun j16 => (if a1 = (-1) then j16 () else (m_isRule N a1 M).bind fun r3 => (if r3 = 0 then some ((-2), M) else j16 ()))
theorem c_m_force {l : Launch} {g : jG} (N : Nat) (a1 : Int) (M : jMem)  : ∀ o, m_force N a1 M = some o → jCt l g jTM yX12_force cX12_force 3 (some .int) 0 3 [(2, 0), (0, a1)] M o := by
  refine jMet (own := RX12) (em := id) (L := [(0, 2, 0), (1, 0, a1)]) (by decide +kernel) rfl (Nat.le_of_ble_eq_true rfl) rfl (fun K hR => ?_)
  unfold m_force
  refine z_iload_n (pc := 0) hR 1 dX12_force_0 rfl rfl ?_
  refine z_iconst (pc := 1) hR dX12_force_1 rfl ?_
  refine z_join (P := fun j => ∀ (_ : Unit), jZ K id 16 [(0, 2, 0), (1, 0, a1)] [] M (j ())) (fun _ => ?_) (fun j16 hj16 => ?_)
  · refine z_aload_n (pc := 16) hR 0 dX12_force_16 rfl rfl ?_
    refine z_geti (pc := 17) hR (j := 21) jf_RX12_42 kmo_0 (by decide) rfl rfl dX12_force_17 ?_
    refine z_let1 (fun v1 => ?_)
    refine z_istore_n (pc := 20) hR (lv' := [(2, 0, v1), (0, 2, 0), (1, 0, a1)]) dX12_force_20 rfl (by decide) rfl ?_
    refine z_aload_n (pc := 21) hR 1 dX12_force_21 rfl rfl ?_
    refine z_iload_n (pc := 22) hR 2 dX12_force_22 rfl rfl ?_
    refine z_puti (pc := 23) hR (j := 21) jp_RX12_42 kmo_0 (by decide) rfl rfl rfl rfl dX12_force_23 (fun M2 => ?_)
    refine z_iload_n (pc := 26) hR 0 dX12_force_26 rfl rfl ?_
    exact z_ireturn (pc := 27) hR rfl rfl dX12_force_27 rfl
  refine z_icmpeq (pc := 2) (tgt := 16) hR dX12_force_2 (by decide) ?_ ?_
  · exact hj16 ()
  · refine z_aload_n (pc := 5) hR 0 dX12_force_5 rfl rfl ?_
    refine z_iload_n (pc := 6) hR 1 dX12_force_6 rfl rfl ?_
    refine z_callvp (pc := 7) hR (As := [(0, a1)]) (st := []) jm_X12_isRule jl_RX12_307 kmo_0 (by decide) rfl (by decide) (c_m_isRule N a1 M) rfl (by decide) (by decide) rfl (Nat.le_of_ble_eq_true rfl) dX12_force_7 (fun r3 => ?_)
    refine z_ifne (pc := 10) (tgt := 16) hR dX12_force_10 (by decide) ?_ ?_
    · exact hj16 ()
    · refine z_bipush (pc := 13) hR dX12_force_13 rfl ?_
      exact z_ireturn (pc := 15) hR rfl rfl dX12_force_15 rfl
theorem dX12_well_0 : decode cX12_well 0 = .ok (.aload_n 0, 1) := by decide +kernel
theorem dX12_well_1 : decode cX12_well 1 = .ok (.iload_n 1, 1) := by decide +kernel
theorem dX12_well_2 : decode cX12_well 2 = .ok (.invokevirtual 298, 3) := by decide +kernel
theorem dX12_well_5 : decode cX12_well 5 = .ok (.ifCond .ne 5, 3) := by decide +kernel
theorem dX12_well_8 : decode cX12_well 8 = .ok (.iconst (-1), 1) := by decide +kernel
theorem dX12_well_9 : decode cX12_well 9 = .ok (.ireturn, 1) := by decide +kernel
theorem dX12_well_10 : decode cX12_well 10 = .ok (.iload_n 2, 1) := by decide +kernel
theorem dX12_well_11 : decode cX12_well 11 = .ok (.tableswitch 65 0 3 #[29, 39, 49, 59], 29) := by decide +kernel
theorem dX12_well_40 : decode cX12_well 40 = .ok (.aload_n 0, 1) := by decide +kernel
theorem dX12_well_41 : decode cX12_well 41 = .ok (.getfield 39, 3) := by decide +kernel
theorem dX12_well_44 : decode cX12_well 44 = .ok (.bipush 11, 2) := by decide +kernel
theorem dX12_well_46 : decode cX12_well 46 = .ok (.iload_n 1, 1) := by decide +kernel
theorem dX12_well_47 : decode cX12_well 47 = .ok (.iadd, 1) := by decide +kernel
theorem dX12_well_48 : decode cX12_well 48 = .ok (.iaload, 1) := by decide +kernel
theorem dX12_well_49 : decode cX12_well 49 = .ok (.ireturn, 1) := by decide +kernel
theorem dX12_well_50 : decode cX12_well 50 = .ok (.aload_n 0, 1) := by decide +kernel
theorem dX12_well_51 : decode cX12_well 51 = .ok (.getfield 39, 3) := by decide +kernel
theorem dX12_well_54 : decode cX12_well 54 = .ok (.bipush 18, 2) := by decide +kernel
theorem dX12_well_56 : decode cX12_well 56 = .ok (.iload_n 1, 1) := by decide +kernel
theorem dX12_well_57 : decode cX12_well 57 = .ok (.iadd, 1) := by decide +kernel
theorem dX12_well_58 : decode cX12_well 58 = .ok (.iaload, 1) := by decide +kernel
theorem dX12_well_59 : decode cX12_well 59 = .ok (.ireturn, 1) := by decide +kernel
theorem dX12_well_60 : decode cX12_well 60 = .ok (.aload_n 0, 1) := by decide +kernel
theorem dX12_well_61 : decode cX12_well 61 = .ok (.getfield 39, 3) := by decide +kernel
theorem dX12_well_64 : decode cX12_well 64 = .ok (.bipush 25, 2) := by decide +kernel
theorem dX12_well_66 : decode cX12_well 66 = .ok (.iload_n 1, 1) := by decide +kernel
theorem dX12_well_67 : decode cX12_well 67 = .ok (.iadd, 1) := by decide +kernel
theorem dX12_well_68 : decode cX12_well 68 = .ok (.iaload, 1) := by decide +kernel
theorem dX12_well_69 : decode cX12_well 69 = .ok (.ireturn, 1) := by decide +kernel
theorem dX12_well_70 : decode cX12_well 70 = .ok (.aload_n 0, 1) := by decide +kernel
theorem dX12_well_71 : decode cX12_well 71 = .ok (.iload_n 1, 1) := by decide +kernel
theorem dX12_well_72 : decode cX12_well 72 = .ok (.invokevirtual 310, 3) := by decide +kernel
theorem dX12_well_75 : decode cX12_well 75 = .ok (.ireturn, 1) := by decide +kernel
theorem dX12_well_76 : decode cX12_well 76 = .ok (.iconst (-1), 1) := by decide +kernel
theorem dX12_well_77 : decode cX12_well 77 = .ok (.ireturn, 1) := by decide +kernel
def m_well (N : Nat) (a1 a2 : Int) (M : jMem) : Option Int := (m_isOne N a1 M).bind fun r1 => (if r1 = 0 then some ((-1)) else (if a2 = 0 then jchk (0 ≤ (w32 (11 + a1)) ∧ (w32 (11 + a1)) < 112) <| some ((M 10 ((w32 (11 + a1))))) else (if a2 = 1 then jchk (0 ≤ (w32 (18 + a1)) ∧ (w32 (18 + a1)) < 112) <| some ((M 10 ((w32 (18 + a1))))) else (if a2 = 2 then jchk (0 ≤ (w32 (25 + a1)) ∧ (w32 (25 + a1)) < 112) <| some ((M 10 ((w32 (25 + a1))))) else (if a2 = 3 then (m_farmOf N a1 M).bind fun r9 => some r9 else some ((-1)))))))
theorem c_m_well {l : Launch} {g : jG} (N : Nat) (a1 a2 : Int) (M : jMem)  : ∀ o, m_well N a1 a2 M = some o → jCt l g jTM yX12_well cX12_well 3 (some .int) 0 3 [(2, 0), (0, a1), (0, a2)] M (o, M) := by
  refine jMet (own := RX12) (em := (fun r => (r, M))) (L := [(0, 2, 0), (1, 0, a1), (2, 0, a2)]) (by decide +kernel) rfl (Nat.le_of_ble_eq_true rfl) rfl (fun K hR => ?_)
  unfold m_well
  refine z_aload_n (pc := 0) hR 0 dX12_well_0 rfl rfl ?_
  refine z_iload_n (pc := 1) hR 1 dX12_well_1 rfl rfl ?_
  refine z_callvp (pc := 2) hR (As := [(0, a1)]) (st := []) jm_X12_isOne jl_RX12_298 kmo_0 (by decide) rfl (by decide) (c_m_isOne N a1 M) rfl (by decide) (by decide) rfl (Nat.le_of_ble_eq_true rfl) dX12_well_2 (fun r1 => ?_)
  refine z_ifne (pc := 5) (tgt := 10) hR dX12_well_5 (by decide) ?_ ?_
  · refine z_iload_n (pc := 10) hR 2 dX12_well_10 rfl rfl ?_
    refine z_tsw (pc := 11) (tgt := 40) (j := 0) (y := 0) hR dX12_well_11 rfl rfl (by decide) (by decide) ?_ (fun hs2 => ?_)
    · refine z_aload_n (pc := 40) hR 0 dX12_well_40 rfl rfl ?_
      refine z_getr (pc := 41) hR (c0 := 10) (r := 10) jf_RX12_39 kmo_0 (by decide) rfl rfl dX12_well_41 ?_
      refine z_bipush (pc := 44) hR dX12_well_44 rfl ?_
      refine z_iload_n (pc := 46) hR 1 dX12_well_46 rfl rfl ?_
      refine z_iadd (pc := 47) hR dX12_well_47 ?_
      refine z_chk (fun hc3 => ?_)
      refine z_iald (pc := 48) hR (n := 112) kma_10 hc3.1 hc3.2 dX12_well_48 ?_
      exact z_ireturn (pc := 49) hR rfl rfl dX12_well_49 rfl
    refine z_tsw (pc := 11) (tgt := 50) (j := 1) (y := 1) hR dX12_well_11 rfl rfl (by decide) (by decide) ?_ (fun hs4 => ?_)
    · refine z_aload_n (pc := 50) hR 0 dX12_well_50 rfl rfl ?_
      refine z_getr (pc := 51) hR (c0 := 10) (r := 10) jf_RX12_39 kmo_0 (by decide) rfl rfl dX12_well_51 ?_
      refine z_bipush (pc := 54) hR dX12_well_54 rfl ?_
      refine z_iload_n (pc := 56) hR 1 dX12_well_56 rfl rfl ?_
      refine z_iadd (pc := 57) hR dX12_well_57 ?_
      refine z_chk (fun hc5 => ?_)
      refine z_iald (pc := 58) hR (n := 112) kma_10 hc5.1 hc5.2 dX12_well_58 ?_
      exact z_ireturn (pc := 59) hR rfl rfl dX12_well_59 rfl
    refine z_tsw (pc := 11) (tgt := 60) (j := 2) (y := 2) hR dX12_well_11 rfl rfl (by decide) (by decide) ?_ (fun hs6 => ?_)
    · refine z_aload_n (pc := 60) hR 0 dX12_well_60 rfl rfl ?_
      refine z_getr (pc := 61) hR (c0 := 10) (r := 10) jf_RX12_39 kmo_0 (by decide) rfl rfl dX12_well_61 ?_
      refine z_bipush (pc := 64) hR dX12_well_64 rfl ?_
      refine z_iload_n (pc := 66) hR 1 dX12_well_66 rfl rfl ?_
      refine z_iadd (pc := 67) hR dX12_well_67 ?_
      refine z_chk (fun hc7 => ?_)
      refine z_iald (pc := 68) hR (n := 112) kma_10 hc7.1 hc7.2 dX12_well_68 ?_
      exact z_ireturn (pc := 69) hR rfl rfl dX12_well_69 rfl
    refine z_tsw (pc := 11) (tgt := 70) (j := 3) (y := 3) hR dX12_well_11 rfl rfl (by decide) (by decide) ?_ (fun hs8 => ?_)
    · refine z_aload_n (pc := 70) hR 0 dX12_well_70 rfl rfl ?_
      refine z_iload_n (pc := 71) hR 1 dX12_well_71 rfl rfl ?_
      refine z_callvp (pc := 72) hR (As := [(0, a1)]) (st := []) jm_X12_farmOf jl_RX12_310 kmo_0 (by decide) rfl (by decide) (c_m_farmOf N a1 M) rfl (by decide) (by decide) rfl (Nat.le_of_ble_eq_true rfl) dX12_well_72 (fun r9 => ?_)
      exact z_ireturn (pc := 75) hR rfl rfl dX12_well_75 rfl
    refine z_tswd (pc := 11) (tgt := 76) hR dX12_well_11 (by omega) (by decide) ?_
    refine z_iconst (pc := 76) hR dX12_well_76 rfl ?_
    exact z_ireturn (pc := 77) hR rfl rfl dX12_well_77 rfl
  · refine z_iconst (pc := 8) hR dX12_well_8 rfl ?_
    exact z_ireturn (pc := 9) hR rfl rfl dX12_well_9 rfl
theorem dX12_farm_0 : decode cX12_farm 0 = .ok (.aload_n 0, 1) := by decide +kernel
theorem dX12_farm_1 : decode cX12_farm 1 = .ok (.iload_n 1, 1) := by decide +kernel
theorem dX12_farm_2 : decode cX12_farm 2 = .ok (.invokevirtual 298, 3) := by decide +kernel
theorem dX12_farm_5 : decode cX12_farm 5 = .ok (.ifCond .ne 5, 3) := by decide +kernel
theorem dX12_farm_8 : decode cX12_farm 8 = .ok (.iconst (-1), 1) := by decide +kernel
theorem dX12_farm_9 : decode cX12_farm 9 = .ok (.ireturn, 1) := by decide +kernel
theorem dX12_farm_10 : decode cX12_farm 10 = .ok (.iload_n 2, 1) := by decide +kernel
theorem dX12_farm_11 : decode cX12_farm 11 = .ok (.tableswitch 69 0 3 #[29, 39, 49, 59], 29) := by decide +kernel
theorem dX12_farm_40 : decode cX12_farm 40 = .ok (.aload_n 0, 1) := by decide +kernel
theorem dX12_farm_41 : decode cX12_farm 41 = .ok (.getfield 39, 3) := by decide +kernel
theorem dX12_farm_44 : decode cX12_farm 44 = .ok (.bipush 46, 2) := by decide +kernel
theorem dX12_farm_46 : decode cX12_farm 46 = .ok (.iload_n 1, 1) := by decide +kernel
theorem dX12_farm_47 : decode cX12_farm 47 = .ok (.iadd, 1) := by decide +kernel
theorem dX12_farm_48 : decode cX12_farm 48 = .ok (.iaload, 1) := by decide +kernel
theorem dX12_farm_49 : decode cX12_farm 49 = .ok (.ireturn, 1) := by decide +kernel
theorem dX12_farm_50 : decode cX12_farm 50 = .ok (.aload_n 0, 1) := by decide +kernel
theorem dX12_farm_51 : decode cX12_farm 51 = .ok (.getfield 39, 3) := by decide +kernel
theorem dX12_farm_54 : decode cX12_farm 54 = .ok (.bipush 39, 2) := by decide +kernel
theorem dX12_farm_56 : decode cX12_farm 56 = .ok (.iload_n 1, 1) := by decide +kernel
theorem dX12_farm_57 : decode cX12_farm 57 = .ok (.iadd, 1) := by decide +kernel
theorem dX12_farm_58 : decode cX12_farm 58 = .ok (.iaload, 1) := by decide +kernel
theorem dX12_farm_59 : decode cX12_farm 59 = .ok (.ireturn, 1) := by decide +kernel
theorem dX12_farm_60 : decode cX12_farm 60 = .ok (.aload_n 0, 1) := by decide +kernel
theorem dX12_farm_61 : decode cX12_farm 61 = .ok (.getfield 39, 3) := by decide +kernel
theorem dX12_farm_64 : decode cX12_farm 64 = .ok (.bipush 32, 2) := by decide +kernel
theorem dX12_farm_66 : decode cX12_farm 66 = .ok (.iload_n 1, 1) := by decide +kernel
theorem dX12_farm_67 : decode cX12_farm 67 = .ok (.iadd, 1) := by decide +kernel
theorem dX12_farm_68 : decode cX12_farm 68 = .ok (.iaload, 1) := by decide +kernel
theorem dX12_farm_69 : decode cX12_farm 69 = .ok (.ireturn, 1) := by decide +kernel
theorem dX12_farm_70 : decode cX12_farm 70 = .ok (.aload_n 0, 1) := by decide +kernel
theorem dX12_farm_71 : decode cX12_farm 71 = .ok (.getfield 39, 3) := by decide +kernel
theorem dX12_farm_74 : decode cX12_farm 74 = .ok (.bipush 53, 2) := by decide +kernel
theorem dX12_farm_76 : decode cX12_farm 76 = .ok (.iload_n 1, 1) := by decide +kernel
theorem dX12_farm_77 : decode cX12_farm 77 = .ok (.iadd, 1) := by decide +kernel
theorem dX12_farm_78 : decode cX12_farm 78 = .ok (.iaload, 1) := by decide +kernel
theorem dX12_farm_79 : decode cX12_farm 79 = .ok (.ireturn, 1) := by decide +kernel
theorem dX12_farm_80 : decode cX12_farm 80 = .ok (.iconst (-1), 1) := by decide +kernel
theorem dX12_farm_81 : decode cX12_farm 81 = .ok (.ireturn, 1) := by decide +kernel
def m_farm (N : Nat) (a1 a2 : Int) (M : jMem) : Option Int := (m_isOne N a1 M).bind fun r1 => (if r1 = 0 then some ((-1)) else (if a2 = 0 then jchk (0 ≤ (w32 (46 + a1)) ∧ (w32 (46 + a1)) < 112) <| some ((M 10 ((w32 (46 + a1))))) else (if a2 = 1 then jchk (0 ≤ (w32 (39 + a1)) ∧ (w32 (39 + a1)) < 112) <| some ((M 10 ((w32 (39 + a1))))) else (if a2 = 2 then jchk (0 ≤ (w32 (32 + a1)) ∧ (w32 (32 + a1)) < 112) <| some ((M 10 ((w32 (32 + a1))))) else (if a2 = 3 then jchk (0 ≤ (w32 (53 + a1)) ∧ (w32 (53 + a1)) < 112) <| some ((M 10 ((w32 (53 + a1))))) else some ((-1)))))))
theorem c_m_farm {l : Launch} {g : jG} (N : Nat) (a1 a2 : Int) (M : jMem)  : ∀ o, m_farm N a1 a2 M = some o → jCt l g jTM yX12_farm cX12_farm 3 (some .int) 0 3 [(2, 0), (0, a1), (0, a2)] M (o, M) := by
  refine jMet (own := RX12) (em := (fun r => (r, M))) (L := [(0, 2, 0), (1, 0, a1), (2, 0, a2)]) (by decide +kernel) rfl (Nat.le_of_ble_eq_true rfl) rfl (fun K hR => ?_)
  unfold m_farm
  refine z_aload_n (pc := 0) hR 0 dX12_farm_0 rfl rfl ?_
  refine z_iload_n (pc := 1) hR 1 dX12_farm_1 rfl rfl ?_
  refine z_callvp (pc := 2) hR (As := [(0, a1)]) (st := []) jm_X12_isOne jl_RX12_298 kmo_0 (by decide) rfl (by decide) (c_m_isOne N a1 M) rfl (by decide) (by decide) rfl (Nat.le_of_ble_eq_true rfl) dX12_farm_2 (fun r1 => ?_)
  refine z_ifne (pc := 5) (tgt := 10) hR dX12_farm_5 (by decide) ?_ ?_
  · refine z_iload_n (pc := 10) hR 2 dX12_farm_10 rfl rfl ?_
    refine z_tsw (pc := 11) (tgt := 40) (j := 0) (y := 0) hR dX12_farm_11 rfl rfl (by decide) (by decide) ?_ (fun hs2 => ?_)
    · refine z_aload_n (pc := 40) hR 0 dX12_farm_40 rfl rfl ?_
      refine z_getr (pc := 41) hR (c0 := 10) (r := 10) jf_RX12_39 kmo_0 (by decide) rfl rfl dX12_farm_41 ?_
      refine z_bipush (pc := 44) hR dX12_farm_44 rfl ?_
      refine z_iload_n (pc := 46) hR 1 dX12_farm_46 rfl rfl ?_
      refine z_iadd (pc := 47) hR dX12_farm_47 ?_
      refine z_chk (fun hc3 => ?_)
      refine z_iald (pc := 48) hR (n := 112) kma_10 hc3.1 hc3.2 dX12_farm_48 ?_
      exact z_ireturn (pc := 49) hR rfl rfl dX12_farm_49 rfl
    refine z_tsw (pc := 11) (tgt := 50) (j := 1) (y := 1) hR dX12_farm_11 rfl rfl (by decide) (by decide) ?_ (fun hs4 => ?_)
    · refine z_aload_n (pc := 50) hR 0 dX12_farm_50 rfl rfl ?_
      refine z_getr (pc := 51) hR (c0 := 10) (r := 10) jf_RX12_39 kmo_0 (by decide) rfl rfl dX12_farm_51 ?_
      refine z_bipush (pc := 54) hR dX12_farm_54 rfl ?_
      refine z_iload_n (pc := 56) hR 1 dX12_farm_56 rfl rfl ?_
      refine z_iadd (pc := 57) hR dX12_farm_57 ?_
      refine z_chk (fun hc5 => ?_)
      refine z_iald (pc := 58) hR (n := 112) kma_10 hc5.1 hc5.2 dX12_farm_58 ?_
      exact z_ireturn (pc := 59) hR rfl rfl dX12_farm_59 rfl
    refine z_tsw (pc := 11) (tgt := 60) (j := 2) (y := 2) hR dX12_farm_11 rfl rfl (by decide) (by decide) ?_ (fun hs6 => ?_)
    · refine z_aload_n (pc := 60) hR 0 dX12_farm_60 rfl rfl ?_
      refine z_getr (pc := 61) hR (c0 := 10) (r := 10) jf_RX12_39 kmo_0 (by decide) rfl rfl dX12_farm_61 ?_
      refine z_bipush (pc := 64) hR dX12_farm_64 rfl ?_
      refine z_iload_n (pc := 66) hR 1 dX12_farm_66 rfl rfl ?_
      refine z_iadd (pc := 67) hR dX12_farm_67 ?_
      refine z_chk (fun hc7 => ?_)
      refine z_iald (pc := 68) hR (n := 112) kma_10 hc7.1 hc7.2 dX12_farm_68 ?_
      exact z_ireturn (pc := 69) hR rfl rfl dX12_farm_69 rfl
    refine z_tsw (pc := 11) (tgt := 70) (j := 3) (y := 3) hR dX12_farm_11 rfl rfl (by decide) (by decide) ?_ (fun hs8 => ?_)
    · refine z_aload_n (pc := 70) hR 0 dX12_farm_70 rfl rfl ?_
      refine z_getr (pc := 71) hR (c0 := 10) (r := 10) jf_RX12_39 kmo_0 (by decide) rfl rfl dX12_farm_71 ?_
      refine z_bipush (pc := 74) hR dX12_farm_74 rfl ?_
      refine z_iload_n (pc := 76) hR 1 dX12_farm_76 rfl rfl ?_
      refine z_iadd (pc := 77) hR dX12_farm_77 ?_
      refine z_chk (fun hc9 => ?_)
      refine z_iald (pc := 78) hR (n := 112) kma_10 hc9.1 hc9.2 dX12_farm_78 ?_
      exact z_ireturn (pc := 79) hR rfl rfl dX12_farm_79 rfl
    refine z_tswd (pc := 11) (tgt := 80) hR dX12_farm_11 (by omega) (by decide) ?_
    refine z_iconst (pc := 80) hR dX12_farm_80 rfl ?_
    exact z_ireturn (pc := 81) hR rfl rfl dX12_farm_81 rfl
  · refine z_iconst (pc := 8) hR dX12_farm_8 rfl ?_
    exact z_ireturn (pc := 9) hR rfl rfl dX12_farm_9 rfl
theorem dX12_lie_0 : decode cX12_lie 0 = .ok (.aload_n 0, 1) := by decide +kernel
theorem dX12_lie_1 : decode cX12_lie 1 = .ok (.invokevirtual 313, 3) := by decide +kernel
theorem dX12_lie_4 : decode cX12_lie 4 = .ok (.ifCond .eq 10, 3) := by decide +kernel
theorem dX12_lie_7 : decode cX12_lie 7 = .ok (.aload_n 0, 1) := by decide +kernel
theorem dX12_lie_8 : decode cX12_lie 8 = .ok (.invokevirtual 316, 3) := by decide +kernel
theorem dX12_lie_11 : decode cX12_lie 11 = .ok (.goto 4, 3) := by decide +kernel
theorem dX12_lie_14 : decode cX12_lie 14 = .ok (.iconst (-1), 1) := by decide +kernel
theorem dX12_lie_15 : decode cX12_lie 15 = .ok (.ireturn, 1) := by decide +kernel
def m_lie (N : Nat) (M : jMem) : Option Int := (m_isParish N M).bind fun r1 => (if r1 = 0 then some ((-1)) else (m_lieNow N M).bind fun r2 => some r2)
theorem c_m_lie {l : Launch} {g : jG} (N : Nat) (M : jMem)  : ∀ o, m_lie N  M = some o → jCt l g jTM yX12_lie cX12_lie 1 (some .int) 0 3 [(2, 0)] M (o, M) := by
  refine jMet (own := RX12) (em := (fun r => (r, M))) (L := [(0, 2, 0)]) (by decide +kernel) rfl (Nat.le_of_ble_eq_true rfl) rfl (fun K hR => ?_)
  unfold m_lie
  refine z_aload_n (pc := 0) hR 0 dX12_lie_0 rfl rfl ?_
  refine z_callvp (pc := 1) hR (As := []) (st := []) jm_X12_isParish jl_RX12_313 kmo_0 (by decide) rfl (by decide) (c_m_isParish N M) rfl (by decide) (by decide) rfl (Nat.le_of_ble_eq_true rfl) dX12_lie_1 (fun r1 => ?_)
  refine z_ifeq (pc := 4) (tgt := 14) hR dX12_lie_4 (by decide) ?_ ?_
  · refine z_iconst (pc := 14) hR dX12_lie_14 rfl ?_
    exact z_ireturn (pc := 15) hR rfl rfl dX12_lie_15 rfl
  · refine z_aload_n (pc := 7) hR 0 dX12_lie_7 rfl rfl ?_
    refine z_callvp (pc := 8) hR (As := []) (st := []) jm_X12_lieNow jl_RX12_316 kmo_0 (by decide) rfl (by decide) (c_m_lieNow N M) rfl (by decide) (by decide) rfl (Nat.le_of_ble_eq_true rfl) dX12_lie_8 (fun r2 => ?_)
    refine z_goto (pc := 11) (tgt := 15) hR dX12_lie_11 (by decide) ?_
    exact z_ireturn (pc := 15) hR rfl rfl dX12_lie_15 rfl
