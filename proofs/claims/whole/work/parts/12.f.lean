theorem dX7_marry_0 : decode cX7_marry 0 = .ok (.aload_n 0, 1) := by decide +kernel
theorem dX7_marry_1 : decode cX7_marry 1 = .ok (.getfield 21, 3) := by decide +kernel
theorem dX7_marry_4 : decode cX7_marry 4 = .ok (.iload_n 1, 1) := by decide +kernel
theorem dX7_marry_5 : decode cX7_marry 5 = .ok (.iaload, 1) := by decide +kernel
theorem dX7_marry_6 : decode cX7_marry 6 = .ok (.istore_n 3, 1) := by decide +kernel
theorem dX7_marry_7 : decode cX7_marry 7 = .ok (.aload_n 0, 1) := by decide +kernel
theorem dX7_marry_8 : decode cX7_marry 8 = .ok (.getfield 21, 3) := by decide +kernel
theorem dX7_marry_11 : decode cX7_marry 11 = .ok (.iload_n 2, 1) := by decide +kernel
theorem dX7_marry_12 : decode cX7_marry 12 = .ok (.iaload, 1) := by decide +kernel
theorem dX7_marry_13 : decode cX7_marry 13 = .ok (.istore 4, 2) := by decide +kernel
theorem dX7_marry_15 : decode cX7_marry 15 = .ok (.aload_n 0, 1) := by decide +kernel
theorem dX7_marry_16 : decode cX7_marry 16 = .ok (.getfield 15, 3) := by decide +kernel
theorem dX7_marry_19 : decode cX7_marry 19 = .ok (.iload_n 3, 1) := by decide +kernel
theorem dX7_marry_20 : decode cX7_marry 20 = .ok (.iaload, 1) := by decide +kernel
theorem dX7_marry_21 : decode cX7_marry 21 = .ok (.istore 5, 2) := by decide +kernel
theorem dX7_marry_23 : decode cX7_marry 23 = .ok (.aload_n 0, 1) := by decide +kernel
theorem dX7_marry_24 : decode cX7_marry 24 = .ok (.getfield 15, 3) := by decide +kernel
theorem dX7_marry_27 : decode cX7_marry 27 = .ok (.iload 4, 2) := by decide +kernel
theorem dX7_marry_29 : decode cX7_marry 29 = .ok (.iaload, 1) := by decide +kernel
theorem dX7_marry_30 : decode cX7_marry 30 = .ok (.istore 6, 2) := by decide +kernel
theorem dX7_marry_32 : decode cX7_marry 32 = .ok (.aload_n 0, 1) := by decide +kernel
theorem dX7_marry_33 : decode cX7_marry 33 = .ok (.getfield 15, 3) := by decide +kernel
theorem dX7_marry_36 : decode cX7_marry 36 = .ok (.iload_n 3, 1) := by decide +kernel
theorem dX7_marry_37 : decode cX7_marry 37 = .ok (.iload 5, 2) := by decide +kernel
theorem dX7_marry_39 : decode cX7_marry 39 = .ok (.iload 6, 2) := by decide +kernel
theorem dX7_marry_41 : decode cX7_marry 41 = .ok (.iload 5, 2) := by decide +kernel
theorem dX7_marry_43 : decode cX7_marry 43 = .ok (.isub, 1) := by decide +kernel
theorem dX7_marry_44 : decode cX7_marry 44 = .ok (.iconst 3, 1) := by decide +kernel
theorem dX7_marry_45 : decode cX7_marry 45 = .ok (.idiv, 1) := by decide +kernel
theorem dX7_marry_46 : decode cX7_marry 46 = .ok (.iadd, 1) := by decide +kernel
theorem dX7_marry_47 : decode cX7_marry 47 = .ok (.iastore, 1) := by decide +kernel
theorem dX7_marry_48 : decode cX7_marry 48 = .ok (.aload_n 0, 1) := by decide +kernel
theorem dX7_marry_49 : decode cX7_marry 49 = .ok (.getfield 15, 3) := by decide +kernel
theorem dX7_marry_52 : decode cX7_marry 52 = .ok (.iload 4, 2) := by decide +kernel
theorem dX7_marry_54 : decode cX7_marry 54 = .ok (.iload 6, 2) := by decide +kernel
theorem dX7_marry_56 : decode cX7_marry 56 = .ok (.iload 5, 2) := by decide +kernel
theorem dX7_marry_58 : decode cX7_marry 58 = .ok (.iload 6, 2) := by decide +kernel
theorem dX7_marry_60 : decode cX7_marry 60 = .ok (.isub, 1) := by decide +kernel
theorem dX7_marry_61 : decode cX7_marry 61 = .ok (.iconst 3, 1) := by decide +kernel
theorem dX7_marry_62 : decode cX7_marry 62 = .ok (.idiv, 1) := by decide +kernel
theorem dX7_marry_63 : decode cX7_marry 63 = .ok (.iadd, 1) := by decide +kernel
theorem dX7_marry_64 : decode cX7_marry 64 = .ok (.iastore, 1) := by decide +kernel
theorem dX7_marry_65 : decode cX7_marry 65 = .ok (.aload_n 0, 1) := by decide +kernel
theorem dX7_marry_66 : decode cX7_marry 66 = .ok (.getfield 21, 3) := by decide +kernel
theorem dX7_marry_69 : decode cX7_marry 69 = .ok (.iload_n 1, 1) := by decide +kernel
theorem dX7_marry_70 : decode cX7_marry 70 = .ok (.iload 4, 2) := by decide +kernel
theorem dX7_marry_72 : decode cX7_marry 72 = .ok (.iastore, 1) := by decide +kernel
theorem dX7_marry_73 : decode cX7_marry 73 = .ok (.aload_n 0, 1) := by decide +kernel
theorem dX7_marry_74 : decode cX7_marry 74 = .ok (.getfield 21, 3) := by decide +kernel
theorem dX7_marry_77 : decode cX7_marry 77 = .ok (.iload_n 2, 1) := by decide +kernel
theorem dX7_marry_78 : decode cX7_marry 78 = .ok (.iload_n 3, 1) := by decide +kernel
theorem dX7_marry_79 : decode cX7_marry 79 = .ok (.iastore, 1) := by decide +kernel
theorem dX7_marry_80 : decode cX7_marry 80 = .ok (.aload_n 0, 1) := by decide +kernel
theorem dX7_marry_81 : decode cX7_marry 81 = .ok (.getfield 24, 3) := by decide +kernel
theorem dX7_marry_84 : decode cX7_marry 84 = .ok (.iload_n 1, 1) := by decide +kernel
theorem dX7_marry_85 : decode cX7_marry 85 = .ok (.dup2, 1) := by decide +kernel
theorem dX7_marry_86 : decode cX7_marry 86 = .ok (.iaload, 1) := by decide +kernel
theorem dX7_marry_87 : decode cX7_marry 87 = .ok (.iconst 1, 1) := by decide +kernel
theorem dX7_marry_88 : decode cX7_marry 88 = .ok (.isub, 1) := by decide +kernel
theorem dX7_marry_89 : decode cX7_marry 89 = .ok (.iastore, 1) := by decide +kernel
theorem dX7_marry_90 : decode cX7_marry 90 = .ok (.aload_n 0, 1) := by decide +kernel
theorem dX7_marry_91 : decode cX7_marry 91 = .ok (.getfield 24, 3) := by decide +kernel
theorem dX7_marry_94 : decode cX7_marry 94 = .ok (.iload_n 2, 1) := by decide +kernel
theorem dX7_marry_95 : decode cX7_marry 95 = .ok (.dup2, 1) := by decide +kernel
theorem dX7_marry_96 : decode cX7_marry 96 = .ok (.iaload, 1) := by decide +kernel
theorem dX7_marry_97 : decode cX7_marry 97 = .ok (.iconst 1, 1) := by decide +kernel
theorem dX7_marry_98 : decode cX7_marry 98 = .ok (.isub, 1) := by decide +kernel
theorem dX7_marry_99 : decode cX7_marry 99 = .ok (.iastore, 1) := by decide +kernel
theorem dX7_marry_100 : decode cX7_marry 100 = .ok (.return_, 1) := by decide +kernel
def St_marry (N : Nat) (q a1 a2 : Int) (M : jMem) : Option (Int × jMem) := jchk (0 ≤ a1 ∧ a1 < 7) <| jlt ((M ((q + 4)) a1)) fun v2 => jchk (0 ≤ a2 ∧ a2 < 7) <| jlt ((M ((q + 4)) a2)) fun v4 => jchk (0 ≤ v2 ∧ v2 < 7) <| jlt ((M ((q + 2)) v2)) fun v6 => jchk (0 ≤ v4 ∧ v4 < 7) <| jlt ((M ((q + 2)) v4)) fun v8 => jchk (0 ≤ v2 ∧ v2 < 7) <| jlt (up M ((q + 2)) v2 ((w32 (v6 + ((w32 (((w32 (v8 - v6))).tdiv 3))))))) fun M10 => jchk (0 ≤ v4 ∧ v4 < 7) <| jlt (up M10 ((q + 2)) v4 ((w32 (v8 + ((w32 (((w32 (v6 - v8))).tdiv 3))))))) fun M12 => jchk (0 ≤ a1 ∧ a1 < 7) <| jlt (up M12 ((q + 4)) a1 v4) fun M14 => jchk (0 ≤ a2 ∧ a2 < 7) <| jlt (up M14 ((q + 4)) a2 v2) fun M16 => jchk (0 ≤ a1 ∧ a1 < 7) <| jchk (0 ≤ a1 ∧ a1 < 7) <| jlt (up M16 ((q + 5)) a1 ((w32 (((M16 ((q + 5)) a1)) - 1)))) fun M19 => jchk (0 ≤ a2 ∧ a2 < 7) <| jchk (0 ≤ a2 ∧ a2 < 7) <| jlt (up M19 ((q + 5)) a2 ((w32 (((M19 ((q + 5)) a2)) - 1)))) fun M22 => some (0, M22)
theorem c_St_marry {l : Launch} {g : jG} (N : Nat) (q a1 a2 : Int) (M : jMem) (hq : jk jTX q 7) : ∀ o, St_marry N q a1 a2 M = some o → jCt l g jTX yX7_marry cX7_marry 7 none 3 1 [(2, q), (0, a1), (0, a2)] M o := by
  refine jMet (own := RX7) (em := id) (L := [(0, 2, q), (1, 0, a1), (2, 0, a2)]) (by decide +kernel) rfl (Nat.le_of_ble_eq_true rfl) rfl (fun K hR => ?_)
  unfold St_marry
  refine z_aload_n (pc := 0) hR 0 dX7_marry_0 rfl rfl ?_
  refine z_getr (pc := 1) hR (c0 := 4) (r := (q + 4)) jf_RX7_21 hq (by decide) rfl rfl dX7_marry_1 ?_
  refine z_iload_n (pc := 4) hR 1 dX7_marry_4 rfl rfl ?_
  refine z_chk (fun hc1 => ?_)
  refine z_iald (pc := 5) hR (n := 7) (kf_7_has hq) hc1.1 hc1.2 dX7_marry_5 ?_
  refine z_let1 (fun v2 => ?_)
  refine z_istore_n (pc := 6) hR (lv' := [(3, 0, v2), (0, 2, q), (1, 0, a1), (2, 0, a2)]) dX7_marry_6 rfl (by decide) rfl ?_
  refine z_aload_n (pc := 7) hR 1 dX7_marry_7 rfl rfl ?_
  refine z_getr (pc := 8) hR (c0 := 4) (r := (q + 4)) jf_RX7_21 hq (by decide) rfl rfl dX7_marry_8 ?_
  refine z_iload_n (pc := 11) hR 3 dX7_marry_11 rfl rfl ?_
  refine z_chk (fun hc3 => ?_)
  refine z_iald (pc := 12) hR (n := 7) (kf_7_has hq) hc3.1 hc3.2 dX7_marry_12 ?_
  refine z_let1 (fun v4 => ?_)
  refine z_istore (pc := 13) hR (lv' := [(4, 0, v4), (3, 0, v2), (0, 2, q), (1, 0, a1), (2, 0, a2)]) dX7_marry_13 (by decide) rfl ?_
  refine z_aload_n (pc := 15) hR 2 dX7_marry_15 rfl rfl ?_
  refine z_getr (pc := 16) hR (c0 := 2) (r := (q + 2)) jf_RX7_15 hq (by decide) rfl rfl dX7_marry_16 ?_
  refine z_iload_n (pc := 19) hR 1 dX7_marry_19 rfl rfl ?_
  refine z_chk (fun hc5 => ?_)
  refine z_iald (pc := 20) hR (n := 7) (kf_7_taste hq) hc5.1 hc5.2 dX7_marry_20 ?_
  refine z_let1 (fun v6 => ?_)
  refine z_istore (pc := 21) hR (lv' := [(5, 0, v6), (4, 0, v4), (3, 0, v2), (0, 2, q), (1, 0, a1), (2, 0, a2)]) dX7_marry_21 (by decide) rfl ?_
  refine z_aload_n (pc := 23) hR 3 dX7_marry_23 rfl rfl ?_
  refine z_getr (pc := 24) hR (c0 := 2) (r := (q + 2)) jf_RX7_15 hq (by decide) rfl rfl dX7_marry_24 ?_
  refine z_iload (pc := 27) hR 1 dX7_marry_27 rfl ?_
  refine z_chk (fun hc7 => ?_)
  refine z_iald (pc := 29) hR (n := 7) (kf_7_taste hq) hc7.1 hc7.2 dX7_marry_29 ?_
  refine z_let1 (fun v8 => ?_)
  refine z_istore (pc := 30) hR (lv' := [(6, 0, v8), (5, 0, v6), (4, 0, v4), (3, 0, v2), (0, 2, q), (1, 0, a1), (2, 0, a2)]) dX7_marry_30 (by decide) rfl ?_
  refine z_aload_n (pc := 32) hR 4 dX7_marry_32 rfl rfl ?_
  refine z_getr (pc := 33) hR (c0 := 2) (r := (q + 2)) jf_RX7_15 hq (by decide) rfl rfl dX7_marry_33 ?_
  refine z_iload_n (pc := 36) hR 3 dX7_marry_36 rfl rfl ?_
  refine z_iload (pc := 37) hR 1 dX7_marry_37 rfl ?_
  refine z_iload (pc := 39) hR 0 dX7_marry_39 rfl ?_
  refine z_iload (pc := 41) hR 1 dX7_marry_41 rfl ?_
  refine z_isub (pc := 43) hR dX7_marry_43 ?_
  refine z_iconst (pc := 44) hR dX7_marry_44 rfl ?_
  refine z_idiv (pc := 45) hR dX7_marry_45 (by decide) ?_
  refine z_iadd (pc := 46) hR dX7_marry_46 ?_
  refine z_chk (fun hc9 => ?_)
  refine z_iast (pc := 47) hR (n := 7) (kf_7_taste hq) hc9.1 hc9.2 dX7_marry_47 (fun M10 => ?_)
  refine z_aload_n (pc := 48) hR 4 dX7_marry_48 rfl rfl ?_
  refine z_getr (pc := 49) hR (c0 := 2) (r := (q + 2)) jf_RX7_15 hq (by decide) rfl rfl dX7_marry_49 ?_
  refine z_iload (pc := 52) hR 2 dX7_marry_52 rfl ?_
  refine z_iload (pc := 54) hR 0 dX7_marry_54 rfl ?_
  refine z_iload (pc := 56) hR 1 dX7_marry_56 rfl ?_
  refine z_iload (pc := 58) hR 0 dX7_marry_58 rfl ?_
  refine z_isub (pc := 60) hR dX7_marry_60 ?_
  refine z_iconst (pc := 61) hR dX7_marry_61 rfl ?_
  refine z_idiv (pc := 62) hR dX7_marry_62 (by decide) ?_
  refine z_iadd (pc := 63) hR dX7_marry_63 ?_
  refine z_chk (fun hc11 => ?_)
  refine z_iast (pc := 64) hR (n := 7) (kf_7_taste hq) hc11.1 hc11.2 dX7_marry_64 (fun M12 => ?_)
  refine z_aload_n (pc := 65) hR 4 dX7_marry_65 rfl rfl ?_
  refine z_getr (pc := 66) hR (c0 := 4) (r := (q + 4)) jf_RX7_21 hq (by decide) rfl rfl dX7_marry_66 ?_
  refine z_iload_n (pc := 69) hR 5 dX7_marry_69 rfl rfl ?_
  refine z_iload (pc := 70) hR 2 dX7_marry_70 rfl ?_
  refine z_chk (fun hc13 => ?_)
  refine z_iast (pc := 72) hR (n := 7) (kf_7_has hq) hc13.1 hc13.2 dX7_marry_72 (fun M14 => ?_)
  refine z_aload_n (pc := 73) hR 4 dX7_marry_73 rfl rfl ?_
  refine z_getr (pc := 74) hR (c0 := 4) (r := (q + 4)) jf_RX7_21 hq (by decide) rfl rfl dX7_marry_74 ?_
  refine z_iload_n (pc := 77) hR 6 dX7_marry_77 rfl rfl ?_
  refine z_iload_n (pc := 78) hR 3 dX7_marry_78 rfl rfl ?_
  refine z_chk (fun hc15 => ?_)
  refine z_iast (pc := 79) hR (n := 7) (kf_7_has hq) hc15.1 hc15.2 dX7_marry_79 (fun M16 => ?_)
  refine z_aload_n (pc := 80) hR 4 dX7_marry_80 rfl rfl ?_
  refine z_getr (pc := 81) hR (c0 := 5) (r := (q + 5)) jf_RX7_24 hq (by decide) rfl rfl dX7_marry_81 ?_
  refine z_iload_n (pc := 84) hR 5 dX7_marry_84 rfl rfl ?_
  refine z_dup2 (pc := 85) hR dX7_marry_85 (by decide) (by decide) ?_
  refine z_chk (fun hc17 => ?_)
  refine z_iald (pc := 86) hR (n := 7) (kf_7_heirs hq) hc17.1 hc17.2 dX7_marry_86 ?_
  refine z_iconst (pc := 87) hR dX7_marry_87 rfl ?_
  refine z_isub (pc := 88) hR dX7_marry_88 ?_
  refine z_chk (fun hc18 => ?_)
  refine z_iast (pc := 89) hR (n := 7) (kf_7_heirs hq) hc18.1 hc18.2 dX7_marry_89 (fun M19 => ?_)
  refine z_aload_n (pc := 90) hR 4 dX7_marry_90 rfl rfl ?_
  refine z_getr (pc := 91) hR (c0 := 5) (r := (q + 5)) jf_RX7_24 hq (by decide) rfl rfl dX7_marry_91 ?_
  refine z_iload_n (pc := 94) hR 6 dX7_marry_94 rfl rfl ?_
  refine z_dup2 (pc := 95) hR dX7_marry_95 (by decide) (by decide) ?_
  refine z_chk (fun hc20 => ?_)
  refine z_iald (pc := 96) hR (n := 7) (kf_7_heirs hq) hc20.1 hc20.2 dX7_marry_96 ?_
  refine z_iconst (pc := 97) hR dX7_marry_97 rfl ?_
  refine z_isub (pc := 98) hR dX7_marry_98 ?_
  refine z_chk (fun hc21 => ?_)
  refine z_iast (pc := 99) hR (n := 7) (kf_7_heirs hq) hc21.1 hc21.2 dX7_marry_99 (fun M22 => ?_)
  exact z_return (x := 0) (pc := 100) hR rfl rfl dX7_marry_100 rfl
theorem dX10_drawAll_0 : decode cX10_drawAll 0 = .ok (.iconst 0, 1) := by decide +kernel
theorem dX10_drawAll_1 : decode cX10_drawAll 1 = .ok (.istore_n 3, 1) := by decide +kernel
theorem dX10_drawAll_2 : decode cX10_drawAll 2 = .ok (.iload_n 3, 1) := by decide +kernel
theorem dX10_drawAll_3 : decode cX10_drawAll 3 = .ok (.aload_n 1, 1) := by decide +kernel
theorem dX10_drawAll_4 : decode cX10_drawAll 4 = .ok (.getfield 50, 3) := by decide +kernel
theorem dX10_drawAll_7 : decode cX10_drawAll 7 = .ok (.if_icmp .ge 52, 3) := by decide +kernel
theorem dX10_drawAll_10 : decode cX10_drawAll 10 = .ok (.aload_n 1, 1) := by decide +kernel
theorem dX10_drawAll_11 : decode cX10_drawAll 11 = .ok (.getfield 78, 3) := by decide +kernel
theorem dX10_drawAll_14 : decode cX10_drawAll 14 = .ok (.iload_n 3, 1) := by decide +kernel
theorem dX10_drawAll_15 : decode cX10_drawAll 15 = .ok (.iaload, 1) := by decide +kernel
theorem dX10_drawAll_16 : decode cX10_drawAll 16 = .ok (.istore 4, 2) := by decide +kernel
theorem dX10_drawAll_18 : decode cX10_drawAll 18 = .ok (.aload_n 0, 1) := by decide +kernel
theorem dX10_drawAll_19 : decode cX10_drawAll 19 = .ok (.getfield 9, 3) := by decide +kernel
theorem dX10_drawAll_22 : decode cX10_drawAll 22 = .ok (.iload_n 3, 1) := by decide +kernel
theorem dX10_drawAll_23 : decode cX10_drawAll 23 = .ok (.aload_n 2, 1) := by decide +kernel
theorem dX10_drawAll_24 : decode cX10_drawAll 24 = .ok (.iload_n 3, 1) := by decide +kernel
theorem dX10_drawAll_25 : decode cX10_drawAll 25 = .ok (.iaload, 1) := by decide +kernel
theorem dX10_drawAll_26 : decode cX10_drawAll 26 = .ok (.aload_n 1, 1) := by decide +kernel
theorem dX10_drawAll_27 : decode cX10_drawAll 27 = .ok (.getfield 84, 3) := by decide +kernel
theorem dX10_drawAll_30 : decode cX10_drawAll 30 = .ok (.iload 4, 2) := by decide +kernel
theorem dX10_drawAll_32 : decode cX10_drawAll 32 = .ok (.iaload, 1) := by decide +kernel
theorem dX10_drawAll_33 : decode cX10_drawAll 33 = .ok (.invokestatic 90, 3) := by decide +kernel
theorem dX10_drawAll_36 : decode cX10_drawAll 36 = .ok (.iastore, 1) := by decide +kernel
theorem dX10_drawAll_37 : decode cX10_drawAll 37 = .ok (.aload_n 1, 1) := by decide +kernel
theorem dX10_drawAll_38 : decode cX10_drawAll 38 = .ok (.getfield 84, 3) := by decide +kernel
theorem dX10_drawAll_41 : decode cX10_drawAll 41 = .ok (.iload 4, 2) := by decide +kernel
theorem dX10_drawAll_43 : decode cX10_drawAll 43 = .ok (.dup2, 1) := by decide +kernel
theorem dX10_drawAll_44 : decode cX10_drawAll 44 = .ok (.iaload, 1) := by decide +kernel
theorem dX10_drawAll_45 : decode cX10_drawAll 45 = .ok (.aload_n 0, 1) := by decide +kernel
theorem dX10_drawAll_46 : decode cX10_drawAll 46 = .ok (.getfield 9, 3) := by decide +kernel
theorem dX10_drawAll_49 : decode cX10_drawAll 49 = .ok (.iload_n 3, 1) := by decide +kernel
theorem dX10_drawAll_50 : decode cX10_drawAll 50 = .ok (.iaload, 1) := by decide +kernel
theorem dX10_drawAll_51 : decode cX10_drawAll 51 = .ok (.isub, 1) := by decide +kernel
theorem dX10_drawAll_52 : decode cX10_drawAll 52 = .ok (.iastore, 1) := by decide +kernel
theorem dX10_drawAll_53 : decode cX10_drawAll 53 = .ok (.iinc 3 1, 3) := by decide +kernel
theorem dX10_drawAll_56 : decode cX10_drawAll 56 = .ok (.goto (-54), 3) := by decide +kernel
theorem dX10_drawAll_59 : decode cX10_drawAll 59 = .ok (.return_, 1) := by decide +kernel
def Ye_drawAll_L2 (N : Nat) (q : Int) (a1 : Int) (a2 : Int) (h2 : (Int × jMem) → Option (Int × jMem)) : Int × jMem → Option (Int × jMem)
  | (x1, M2) => (if x1 < (M2 a1 0) then jchk (0 ≤ x1 ∧ x1 < 7) <| jlt ((M2 ((a1 + 4)) x1)) fun v4 => jchk (0 ≤ x1 ∧ x1 < 7) <| jchk (0 ≤ v4 ∧ v4 < 7) <| jchk (0 ≤ x1 ∧ x1 < 7) <| jlt (up M2 ((q + 1)) x1 ((jmin ((M2 a2 x1)) ((M2 ((a1 + 3)) v4))))) fun M8 => jchk (0 ≤ v4 ∧ v4 < 7) <| jchk (0 ≤ x1 ∧ x1 < 7) <| jchk (0 ≤ v4 ∧ v4 < 7) <| jlt (up M8 ((a1 + 3)) v4 ((w32 (((M8 ((a1 + 3)) v4)) - ((M8 ((q + 1)) x1)))))) fun M12 => h2 ((w32 (x1 + 1)), M12) else some (0, M2))
def Ye_drawAll (N : Nat) (q a1 a2 : Int) (M : jMem) : Option (Int × jMem) := jfix N (Ye_drawAll_L2 N q a1 a2) (0, M)
theorem c_Ye_drawAll {l : Launch} {g : jG} (N : Nat) (q a1 a2 : Int) (M : jMem) (hq : jk jTX q 10) (ha1 : jk jTX a1 7) (ha2 : ja jTX a2 0 7) : ∀ o, Ye_drawAll N q a1 a2 M = some o → jCt l g jTX yX10_drawAll cX10_drawAll 5 none 3 2 [(2, q), (2, a1), (2, a2)] M o := by
  refine jMet (own := RX10) (em := id) (L := [(0, 2, q), (1, 2, a1), (2, 2, a2)]) (by decide +kernel) rfl (Nat.le_of_ble_eq_true rfl) rfl (fun K hR => ?_)
  unfold Ye_drawAll
  refine z_iconst (pc := 0) hR dX10_drawAll_0 rfl ?_
  refine z_istore_n (pc := 1) hR (lv' := [(3, 0, 0), (0, 2, q), (1, 2, a1), (2, 2, a2)]) dX10_drawAll_1 rfl (by decide) rfl ?_
  refine z_pick (pc := 2) (lv' := [(0, 2, q), (1, 2, a1), (2, 2, a2), (3, 0, 0)]) hR [1, 2, 3, 0] rfl ?_
  refine z_fix (σ := Int × jMem) (lv := fun s => [(0, 2, q), (1, 2, a1), (2, 2, a2), (3, 0, s.1)]) (st := fun _ => []) (M := fun s => s.2) (fun h2 hh2 => ?_) N (0, M)
  rintro ⟨x1, M2⟩
  show jZ K id 2 [(0, 2, q), (1, 2, a1), (2, 2, a2), (3, 0, x1)] [] M2 _
  unfold Ye_drawAll_L2
  refine z_iload_n (pc := 2) hR 3 dX10_drawAll_2 rfl rfl ?_
  refine z_aload_n (pc := 3) hR 1 dX10_drawAll_3 rfl rfl ?_
  refine z_geti (pc := 4) hR (j := 0) jf_RX10_50 ha1 (by decide) rfl rfl dX10_drawAll_4 ?_
  refine z_icmpge (pc := 7) (tgt := 59) hR dX10_drawAll_7 (by decide) ?_ ?_
  · exact z_return (x := 0) (pc := 59) hR rfl rfl dX10_drawAll_59 rfl
  · refine z_aload_n (pc := 10) hR 1 dX10_drawAll_10 rfl rfl ?_
    refine z_getr (pc := 11) hR (c0 := 4) (r := (a1 + 4)) jf_RX10_78 ha1 (by decide) rfl rfl dX10_drawAll_11 ?_
    refine z_iload_n (pc := 14) hR 3 dX10_drawAll_14 rfl rfl ?_
    refine z_chk (fun hc3 => ?_)
    refine z_iald (pc := 15) hR (n := 7) (kf_7_has ha1) hc3.1 hc3.2 dX10_drawAll_15 ?_
    refine z_let1 (fun v4 => ?_)
    refine z_istore (pc := 16) hR (lv' := [(4, 0, v4), (0, 2, q), (1, 2, a1), (2, 2, a2), (3, 0, x1)]) dX10_drawAll_16 (by decide) rfl ?_
    refine z_aload_n (pc := 18) hR 1 dX10_drawAll_18 rfl rfl ?_
    refine z_getr (pc := 19) hR (c0 := 1) (r := (q + 1)) jf_RX10_9 hq (by decide) rfl rfl dX10_drawAll_19 ?_
    refine z_iload_n (pc := 22) hR 4 dX10_drawAll_22 rfl rfl ?_
    refine z_aload_n (pc := 23) hR 3 dX10_drawAll_23 rfl rfl ?_
    refine z_iload_n (pc := 24) hR 4 dX10_drawAll_24 rfl rfl ?_
    refine z_chk (fun hc5 => ?_)
    refine z_iald (pc := 25) hR (n := 7) ha2 hc5.1 hc5.2 dX10_drawAll_25 ?_
    refine z_aload_n (pc := 26) hR 2 dX10_drawAll_26 rfl rfl ?_
    refine z_getr (pc := 27) hR (c0 := 3) (r := (a1 + 3)) jf_RX10_84 ha1 (by decide) rfl rfl dX10_drawAll_27 ?_
    refine z_iload (pc := 30) hR 0 dX10_drawAll_30 rfl ?_
    refine z_chk (fun hc6 => ?_)
    refine z_iald (pc := 32) hR (n := 7) (kf_7_water ha1) hc6.1 hc6.2 dX10_drawAll_32 ?_
    refine z_mmin (pc := 33) hR jl_RX10_90 jw_min_s jw_Math jw_min_c (by decide) (Nat.le_of_ble_eq_true rfl) dX10_drawAll_33 ?_
    refine z_chk (fun hc7 => ?_)
    refine z_iast (pc := 36) hR (n := 7) (kf_10_drawn hq) hc7.1 hc7.2 dX10_drawAll_36 (fun M8 => ?_)
    refine z_aload_n (pc := 37) hR 2 dX10_drawAll_37 rfl rfl ?_
    refine z_getr (pc := 38) hR (c0 := 3) (r := (a1 + 3)) jf_RX10_84 ha1 (by decide) rfl rfl dX10_drawAll_38 ?_
    refine z_iload (pc := 41) hR 0 dX10_drawAll_41 rfl ?_
    refine z_dup2 (pc := 43) hR dX10_drawAll_43 (by decide) (by decide) ?_
    refine z_chk (fun hc9 => ?_)
    refine z_iald (pc := 44) hR (n := 7) (kf_7_water ha1) hc9.1 hc9.2 dX10_drawAll_44 ?_
    refine z_aload_n (pc := 45) hR 1 dX10_drawAll_45 rfl rfl ?_
    refine z_getr (pc := 46) hR (c0 := 1) (r := (q + 1)) jf_RX10_9 hq (by decide) rfl rfl dX10_drawAll_46 ?_
    refine z_iload_n (pc := 49) hR 4 dX10_drawAll_49 rfl rfl ?_
    refine z_chk (fun hc10 => ?_)
    refine z_iald (pc := 50) hR (n := 7) (kf_10_drawn hq) hc10.1 hc10.2 dX10_drawAll_50 ?_
    refine z_isub (pc := 51) hR dX10_drawAll_51 ?_
    refine z_chk (fun hc11 => ?_)
    refine z_iast (pc := 52) hR (n := 7) (kf_7_water ha1) hc11.1 hc11.2 dX10_drawAll_52 (fun M12 => ?_)
    refine z_iinc (pc := 53) hR (j := 4) (lv' := [(3, 0, (w32 (x1 + 1))), (4, 0, v4), (0, 2, q), (1, 2, a1), (2, 2, a2)]) dX10_drawAll_53 rfl (by decide) rfl ?_
    refine z_goto (pc := 56) (tgt := 2) hR dX10_drawAll_56 (by decide) ?_
    refine z_pick (pc := 2) (lv' := [(0, 2, q), (1, 2, a1), (2, 2, a2), (3, 0, (w32 (x1 + 1)))]) hR [2, 3, 4, 0] rfl ?_
    exact hh2 ((w32 (x1 + 1)), M12)
theorem dX7_addWater_0 : decode cX7_addWater 0 = .ok (.aload_n 0, 1) := by decide +kernel
theorem dX7_addWater_1 : decode cX7_addWater 1 = .ok (.getfield 18, 3) := by decide +kernel
theorem dX7_addWater_4 : decode cX7_addWater 4 = .ok (.iload_n 1, 1) := by decide +kernel
theorem dX7_addWater_5 : decode cX7_addWater 5 = .ok (.aload_n 0, 1) := by decide +kernel
theorem dX7_addWater_6 : decode cX7_addWater 6 = .ok (.getfield 18, 3) := by decide +kernel
theorem dX7_addWater_9 : decode cX7_addWater 9 = .ok (.iload_n 1, 1) := by decide +kernel
theorem dX7_addWater_10 : decode cX7_addWater 10 = .ok (.iaload, 1) := by decide +kernel
theorem dX7_addWater_11 : decode cX7_addWater 11 = .ok (.iload_n 2, 1) := by decide +kernel
theorem dX7_addWater_12 : decode cX7_addWater 12 = .ok (.iadd, 1) := by decide +kernel
theorem dX7_addWater_13 : decode cX7_addWater 13 = .ok (.aload_n 0, 1) := by decide +kernel
theorem dX7_addWater_14 : decode cX7_addWater 14 = .ok (.getfield 9, 3) := by decide +kernel
theorem dX7_addWater_17 : decode cX7_addWater 17 = .ok (.iload_n 1, 1) := by decide +kernel
theorem dX7_addWater_18 : decode cX7_addWater 18 = .ok (.iaload, 1) := by decide +kernel
theorem dX7_addWater_19 : decode cX7_addWater 19 = .ok (.invokestatic 64, 3) := by decide +kernel
theorem dX7_addWater_22 : decode cX7_addWater 22 = .ok (.iastore, 1) := by decide +kernel
theorem dX7_addWater_23 : decode cX7_addWater 23 = .ok (.return_, 1) := by decide +kernel
def St_addWater (N : Nat) (q a1 a2 : Int) (M : jMem) : Option (Int × jMem) := jchk (0 ≤ a1 ∧ a1 < 7) <| jchk (0 ≤ a1 ∧ a1 < 7) <| jchk (0 ≤ a1 ∧ a1 < 7) <| jlt (up M ((q + 3)) a1 ((jmin ((w32 (((M ((q + 3)) a1)) + a2))) ((M ((q + 1)) a1))))) fun M4 => some (0, M4)
theorem c_St_addWater {l : Launch} {g : jG} (N : Nat) (q a1 a2 : Int) (M : jMem) (hq : jk jTX q 7) : ∀ o, St_addWater N q a1 a2 M = some o → jCt l g jTX yX7_addWater cX7_addWater 3 none 3 2 [(2, q), (0, a1), (0, a2)] M o := by
  refine jMet (own := RX7) (em := id) (L := [(0, 2, q), (1, 0, a1), (2, 0, a2)]) (by decide +kernel) rfl (Nat.le_of_ble_eq_true rfl) rfl (fun K hR => ?_)
  unfold St_addWater
  refine z_aload_n (pc := 0) hR 0 dX7_addWater_0 rfl rfl ?_
  refine z_getr (pc := 1) hR (c0 := 3) (r := (q + 3)) jf_RX7_18 hq (by decide) rfl rfl dX7_addWater_1 ?_
  refine z_iload_n (pc := 4) hR 1 dX7_addWater_4 rfl rfl ?_
  refine z_aload_n (pc := 5) hR 0 dX7_addWater_5 rfl rfl ?_
  refine z_getr (pc := 6) hR (c0 := 3) (r := (q + 3)) jf_RX7_18 hq (by decide) rfl rfl dX7_addWater_6 ?_
  refine z_iload_n (pc := 9) hR 1 dX7_addWater_9 rfl rfl ?_
  refine z_chk (fun hc1 => ?_)
  refine z_iald (pc := 10) hR (n := 7) (kf_7_water hq) hc1.1 hc1.2 dX7_addWater_10 ?_
  refine z_iload_n (pc := 11) hR 2 dX7_addWater_11 rfl rfl ?_
  refine z_iadd (pc := 12) hR dX7_addWater_12 ?_
  refine z_aload_n (pc := 13) hR 0 dX7_addWater_13 rfl rfl ?_
  refine z_getr (pc := 14) hR (c0 := 1) (r := (q + 1)) jf_RX7_9 hq (by decide) rfl rfl dX7_addWater_14 ?_
  refine z_iload_n (pc := 17) hR 1 dX7_addWater_17 rfl rfl ?_
  refine z_chk (fun hc2 => ?_)
  refine z_iald (pc := 18) hR (n := 7) (kf_7_depth hq) hc2.1 hc2.2 dX7_addWater_18 ?_
  refine z_mmin (pc := 19) hR jl_RX7_64 jw_min_s jw_Math jw_min_c (by decide) (Nat.le_of_ble_eq_true rfl) dX7_addWater_19 ?_
  refine z_chk (fun hc3 => ?_)
  refine z_iast (pc := 22) hR (n := 7) (kf_7_water hq) hc3.1 hc3.2 dX7_addWater_22 (fun M4 => ?_)
  exact z_return (x := 0) (pc := 23) hR rfl rfl dX7_addWater_23 rfl
theorem dX7_addDepth_0 : decode cX7_addDepth 0 = .ok (.aload_n 0, 1) := by decide +kernel
theorem dX7_addDepth_1 : decode cX7_addDepth 1 = .ok (.getfield 9, 3) := by decide +kernel
theorem dX7_addDepth_4 : decode cX7_addDepth 4 = .ok (.iload_n 1, 1) := by decide +kernel
theorem dX7_addDepth_5 : decode cX7_addDepth 5 = .ok (.aload_n 0, 1) := by decide +kernel
theorem dX7_addDepth_6 : decode cX7_addDepth 6 = .ok (.getfield 9, 3) := by decide +kernel
theorem dX7_addDepth_9 : decode cX7_addDepth 9 = .ok (.iload_n 1, 1) := by decide +kernel
theorem dX7_addDepth_10 : decode cX7_addDepth 10 = .ok (.iaload, 1) := by decide +kernel
theorem dX7_addDepth_11 : decode cX7_addDepth 11 = .ok (.iload_n 2, 1) := by decide +kernel
theorem dX7_addDepth_12 : decode cX7_addDepth 12 = .ok (.iadd, 1) := by decide +kernel
theorem dX7_addDepth_13 : decode cX7_addDepth 13 = .ok (.bipush 40, 2) := by decide +kernel
theorem dX7_addDepth_15 : decode cX7_addDepth 15 = .ok (.invokestatic 64, 3) := by decide +kernel
theorem dX7_addDepth_18 : decode cX7_addDepth 18 = .ok (.iastore, 1) := by decide +kernel
theorem dX7_addDepth_19 : decode cX7_addDepth 19 = .ok (.return_, 1) := by decide +kernel
def St_addDepth (N : Nat) (q a1 a2 : Int) (M : jMem) : Option (Int × jMem) := jchk (0 ≤ a1 ∧ a1 < 7) <| jchk (0 ≤ a1 ∧ a1 < 7) <| jlt (up M ((q + 1)) a1 ((jmin ((w32 (((M ((q + 1)) a1)) + a2))) 40))) fun M3 => some (0, M3)
theorem c_St_addDepth {l : Launch} {g : jG} (N : Nat) (q a1 a2 : Int) (M : jMem) (hq : jk jTX q 7) : ∀ o, St_addDepth N q a1 a2 M = some o → jCt l g jTX yX7_addDepth cX7_addDepth 3 none 3 2 [(2, q), (0, a1), (0, a2)] M o := by
  refine jMet (own := RX7) (em := id) (L := [(0, 2, q), (1, 0, a1), (2, 0, a2)]) (by decide +kernel) rfl (Nat.le_of_ble_eq_true rfl) rfl (fun K hR => ?_)
  unfold St_addDepth
  refine z_aload_n (pc := 0) hR 0 dX7_addDepth_0 rfl rfl ?_
  refine z_getr (pc := 1) hR (c0 := 1) (r := (q + 1)) jf_RX7_9 hq (by decide) rfl rfl dX7_addDepth_1 ?_
  refine z_iload_n (pc := 4) hR 1 dX7_addDepth_4 rfl rfl ?_
  refine z_aload_n (pc := 5) hR 0 dX7_addDepth_5 rfl rfl ?_
  refine z_getr (pc := 6) hR (c0 := 1) (r := (q + 1)) jf_RX7_9 hq (by decide) rfl rfl dX7_addDepth_6 ?_
  refine z_iload_n (pc := 9) hR 1 dX7_addDepth_9 rfl rfl ?_
  refine z_chk (fun hc1 => ?_)
  refine z_iald (pc := 10) hR (n := 7) (kf_7_depth hq) hc1.1 hc1.2 dX7_addDepth_10 ?_
  refine z_iload_n (pc := 11) hR 2 dX7_addDepth_11 rfl rfl ?_
  refine z_iadd (pc := 12) hR dX7_addDepth_12 ?_
  refine z_bipush (pc := 13) hR dX7_addDepth_13 rfl ?_
  refine z_mmin (pc := 15) hR jl_RX7_64 jw_min_s jw_Math jw_min_c (by decide) (Nat.le_of_ble_eq_true rfl) dX7_addDepth_15 ?_
  refine z_chk (fun hc2 => ?_)
  refine z_iast (pc := 18) hR (n := 7) (kf_7_depth hq) hc2.1 hc2.2 dX7_addDepth_18 (fun M3 => ?_)
  exact z_return (x := 0) (pc := 19) hR rfl rfl dX7_addDepth_19 rfl
theorem dX10_rainOnAll_0 : decode cX10_rainOnAll 0 = .ok (.aload_n 0, 1) := by decide +kernel
theorem dX10_rainOnAll_1 : decode cX10_rainOnAll 1 = .ok (.iconst 0, 1) := by decide +kernel
theorem dX10_rainOnAll_2 : decode cX10_rainOnAll 2 = .ok (.putfield 96, 3) := by decide +kernel
theorem dX10_rainOnAll_5 : decode cX10_rainOnAll 5 = .ok (.iconst 0, 1) := by decide +kernel
theorem dX10_rainOnAll_6 : decode cX10_rainOnAll 6 = .ok (.istore_n 3, 1) := by decide +kernel
theorem dX10_rainOnAll_7 : decode cX10_rainOnAll 7 = .ok (.iload_n 3, 1) := by decide +kernel
theorem dX10_rainOnAll_8 : decode cX10_rainOnAll 8 = .ok (.aload_n 1, 1) := by decide +kernel
theorem dX10_rainOnAll_9 : decode cX10_rainOnAll 9 = .ok (.getfield 50, 3) := by decide +kernel
theorem dX10_rainOnAll_12 : decode cX10_rainOnAll 12 = .ok (.if_icmp .ge 42, 3) := by decide +kernel
theorem dX10_rainOnAll_15 : decode cX10_rainOnAll 15 = .ok (.aload_n 1, 1) := by decide +kernel
theorem dX10_rainOnAll_16 : decode cX10_rainOnAll 16 = .ok (.iload_n 3, 1) := by decide +kernel
theorem dX10_rainOnAll_17 : decode cX10_rainOnAll 17 = .ok (.iload_n 2, 1) := by decide +kernel
theorem dX10_rainOnAll_18 : decode cX10_rainOnAll 18 = .ok (.invokevirtual 99, 3) := by decide +kernel
theorem dX10_rainOnAll_21 : decode cX10_rainOnAll 21 = .ok (.aload_n 1, 1) := by decide +kernel
theorem dX10_rainOnAll_22 : decode cX10_rainOnAll 22 = .ok (.getfield 84, 3) := by decide +kernel
theorem dX10_rainOnAll_25 : decode cX10_rainOnAll 25 = .ok (.iload_n 3, 1) := by decide +kernel
theorem dX10_rainOnAll_26 : decode cX10_rainOnAll 26 = .ok (.iaload, 1) := by decide +kernel
theorem dX10_rainOnAll_27 : decode cX10_rainOnAll 27 = .ok (.ifCond .ne 21, 3) := by decide +kernel
theorem dX10_rainOnAll_30 : decode cX10_rainOnAll 30 = .ok (.aload_n 1, 1) := by decide +kernel
theorem dX10_rainOnAll_31 : decode cX10_rainOnAll 31 = .ok (.iload_n 3, 1) := by decide +kernel
theorem dX10_rainOnAll_32 : decode cX10_rainOnAll 32 = .ok (.iconst 1, 1) := by decide +kernel
theorem dX10_rainOnAll_33 : decode cX10_rainOnAll 33 = .ok (.invokevirtual 102, 3) := by decide +kernel
theorem dX10_rainOnAll_36 : decode cX10_rainOnAll 36 = .ok (.aload_n 0, 1) := by decide +kernel
theorem dX10_rainOnAll_37 : decode cX10_rainOnAll 37 = .ok (.dup, 1) := by decide +kernel
theorem dX10_rainOnAll_38 : decode cX10_rainOnAll 38 = .ok (.getfield 96, 3) := by decide +kernel
theorem dX10_rainOnAll_41 : decode cX10_rainOnAll 41 = .ok (.iconst 1, 1) := by decide +kernel
theorem dX10_rainOnAll_42 : decode cX10_rainOnAll 42 = .ok (.iload_n 3, 1) := by decide +kernel
theorem dX10_rainOnAll_43 : decode cX10_rainOnAll 43 = .ok (.ishl, 1) := by decide +kernel
theorem dX10_rainOnAll_44 : decode cX10_rainOnAll 44 = .ok (.ior, 1) := by decide +kernel
theorem dX10_rainOnAll_45 : decode cX10_rainOnAll 45 = .ok (.putfield 96, 3) := by decide +kernel
theorem dX10_rainOnAll_48 : decode cX10_rainOnAll 48 = .ok (.iinc 3 1, 3) := by decide +kernel
theorem dX10_rainOnAll_51 : decode cX10_rainOnAll 51 = .ok (.goto (-44), 3) := by decide +kernel
theorem dX10_rainOnAll_54 : decode cX10_rainOnAll 54 = .ok (.return_, 1) := by decide +kernel
def Ye_rainOnAll_L7 (N : Nat) (q : Int) (a1 : Int) (a2 : Int) (h7 : (Int × jMem) → Option (Int × jMem)) : Int × jMem → Option (Int × jMem)
  | (x2, M3) => (if x2 < (M3 a1 0) then jbv (St_addWater N a1 x2 a2 M3) fun M4 => jchk (0 ≤ x2 ∧ x2 < 7) <| (if (M4 ((a1 + 3)) x2) = 0 then jbv (St_addDepth N a1 x2 1 M4) fun M6 => jlt (up M6 q 1 ((jor ((M6 q 1)) ((jshl 1 x2))))) fun M7 => h7 ((w32 (x2 + 1)), M7) else h7 ((w32 (x2 + 1)), M4)) else some (0, M3))
def Ye_rainOnAll (N : Nat) (q a1 a2 : Int) (M : jMem) : Option (Int × jMem) := jlt (up M q 1 0) fun M1 => jfix N (Ye_rainOnAll_L7 N q a1 a2) (0, M1)
theorem c_Ye_rainOnAll {l : Launch} {g : jG} (N : Nat) (q a1 a2 : Int) (M : jMem) (hq : jk jTX q 10) (ha1 : jk jTX a1 7) : ∀ o, Ye_rainOnAll N q a1 a2 M = some o → jCt l g jTX yX10_rainOnAll cX10_rainOnAll 4 none 3 4 [(2, q), (2, a1), (0, a2)] M o := by
  refine jMet (own := RX10) (em := id) (L := [(0, 2, q), (1, 2, a1), (2, 0, a2)]) (by decide +kernel) rfl (Nat.le_of_ble_eq_true rfl) rfl (fun K hR => ?_)
  unfold Ye_rainOnAll
  refine z_aload_n (pc := 0) hR 0 dX10_rainOnAll_0 rfl rfl ?_
  refine z_iconst (pc := 1) hR dX10_rainOnAll_1 rfl ?_
  refine z_puti (pc := 2) hR (j := 1) jp_RX10_96 hq (by decide) rfl rfl rfl rfl dX10_rainOnAll_2 (fun M1 => ?_)
  refine z_iconst (pc := 5) hR dX10_rainOnAll_5 rfl ?_
  refine z_istore_n (pc := 6) hR (lv' := [(3, 0, 0), (0, 2, q), (1, 2, a1), (2, 0, a2)]) dX10_rainOnAll_6 rfl (by decide) rfl ?_
  refine z_pick (pc := 7) (lv' := [(0, 2, q), (1, 2, a1), (2, 0, a2), (3, 0, 0)]) hR [1, 2, 3, 0] rfl ?_
  refine z_fix (σ := Int × jMem) (lv := fun s => [(0, 2, q), (1, 2, a1), (2, 0, a2), (3, 0, s.1)]) (st := fun _ => []) (M := fun s => s.2) (fun h7 hh7 => ?_) N (0, M1)
  rintro ⟨x2, M3⟩
  show jZ K id 7 [(0, 2, q), (1, 2, a1), (2, 0, a2), (3, 0, x2)] [] M3 _
  unfold Ye_rainOnAll_L7
  refine z_iload_n (pc := 7) hR 3 dX10_rainOnAll_7 rfl rfl ?_
  refine z_aload_n (pc := 8) hR 1 dX10_rainOnAll_8 rfl rfl ?_
  refine z_geti (pc := 9) hR (j := 0) jf_RX10_50 ha1 (by decide) rfl rfl dX10_rainOnAll_9 ?_
  refine z_icmpge (pc := 12) (tgt := 54) hR dX10_rainOnAll_12 (by decide) ?_ ?_
  · exact z_return (x := 0) (pc := 54) hR rfl rfl dX10_rainOnAll_54 rfl
  · refine z_aload_n (pc := 15) hR 1 dX10_rainOnAll_15 rfl rfl ?_
    refine z_iload_n (pc := 16) hR 3 dX10_rainOnAll_16 rfl rfl ?_
    refine z_iload_n (pc := 17) hR 2 dX10_rainOnAll_17 rfl rfl ?_
    refine z_callv0 (pc := 18) (rk' := 3) hR (As := [(0, x2), (0, a2)]) (st := []) jm_X7_addWater jl_RX10_99 ha1 (by decide) rfl (c_St_addWater N a1 x2 a2 M3 ha1) rfl (by decide) (by decide) rfl (Nat.le_of_ble_eq_true rfl) dX10_rainOnAll_18 (fun M4 => ?_)
    refine z_aload_n (pc := 21) hR 1 dX10_rainOnAll_21 rfl rfl ?_
    refine z_getr (pc := 22) hR (c0 := 3) (r := (a1 + 3)) jf_RX10_84 ha1 (by decide) rfl rfl dX10_rainOnAll_22 ?_
    refine z_iload_n (pc := 25) hR 3 dX10_rainOnAll_25 rfl rfl ?_
    refine z_chk (fun hc5 => ?_)
    refine z_iald (pc := 26) hR (n := 7) (kf_7_water ha1) hc5.1 hc5.2 dX10_rainOnAll_26 ?_
    refine z_ifne (pc := 27) (tgt := 48) hR dX10_rainOnAll_27 (by decide) ?_ ?_
    · refine z_iinc (pc := 48) hR (j := 3) (lv' := [(3, 0, (w32 (x2 + 1))), (0, 2, q), (1, 2, a1), (2, 0, a2)]) dX10_rainOnAll_48 rfl (by decide) rfl ?_
      refine z_goto (pc := 51) (tgt := 7) hR dX10_rainOnAll_51 (by decide) ?_
      refine z_pick (pc := 7) (lv' := [(0, 2, q), (1, 2, a1), (2, 0, a2), (3, 0, (w32 (x2 + 1)))]) hR [1, 2, 3, 0] rfl ?_
      exact hh7 ((w32 (x2 + 1)), M4)
    · refine z_aload_n (pc := 30) hR 1 dX10_rainOnAll_30 rfl rfl ?_
      refine z_iload_n (pc := 31) hR 3 dX10_rainOnAll_31 rfl rfl ?_
      refine z_iconst (pc := 32) hR dX10_rainOnAll_32 rfl ?_
      refine z_callv0 (pc := 33) (rk' := 3) hR (As := [(0, x2), (0, 1)]) (st := []) jm_X7_addDepth jl_RX10_102 ha1 (by decide) rfl (c_St_addDepth N a1 x2 1 M4 ha1) rfl (by decide) (by decide) rfl (Nat.le_of_ble_eq_true rfl) dX10_rainOnAll_33 (fun M6 => ?_)
      refine z_aload_n (pc := 36) hR 0 dX10_rainOnAll_36 rfl rfl ?_
      refine z_dup (pc := 37) hR dX10_rainOnAll_37 (by decide) ?_
      refine z_geti (pc := 38) hR (j := 1) jf_RX10_96 hq (by decide) rfl rfl dX10_rainOnAll_38 ?_
      refine z_iconst (pc := 41) hR dX10_rainOnAll_41 rfl ?_
      refine z_iload_n (pc := 42) hR 3 dX10_rainOnAll_42 rfl rfl ?_
      refine z_ishl (pc := 43) hR dX10_rainOnAll_43 ?_
      refine z_ior (pc := 44) hR dX10_rainOnAll_44 ?_
      refine z_puti (pc := 45) hR (j := 1) jp_RX10_96 hq (by decide) rfl rfl rfl rfl dX10_rainOnAll_45 (fun M7 => ?_)
      refine z_iinc (pc := 48) hR (j := 3) (lv' := [(3, 0, (w32 (x2 + 1))), (0, 2, q), (1, 2, a1), (2, 0, a2)]) dX10_rainOnAll_48 rfl (by decide) rfl ?_
      refine z_goto (pc := 51) (tgt := 7) hR dX10_rainOnAll_51 (by decide) ?_
      refine z_pick (pc := 7) (lv' := [(0, 2, q), (1, 2, a1), (2, 0, a2), (3, 0, (w32 (x2 + 1)))]) hR [1, 2, 3, 0] rfl ?_
      exact hh7 ((w32 (x2 + 1)), M7)
theorem dX7_addHeir_0 : decode cX7_addHeir 0 = .ok (.aload_n 0, 1) := by decide +kernel
theorem dX7_addHeir_1 : decode cX7_addHeir 1 = .ok (.getfield 24, 3) := by decide +kernel
theorem dX7_addHeir_4 : decode cX7_addHeir 4 = .ok (.iload_n 1, 1) := by decide +kernel
theorem dX7_addHeir_5 : decode cX7_addHeir 5 = .ok (.aload_n 0, 1) := by decide +kernel
theorem dX7_addHeir_6 : decode cX7_addHeir 6 = .ok (.getfield 24, 3) := by decide +kernel
theorem dX7_addHeir_9 : decode cX7_addHeir 9 = .ok (.iload_n 1, 1) := by decide +kernel
theorem dX7_addHeir_10 : decode cX7_addHeir 10 = .ok (.iaload, 1) := by decide +kernel
theorem dX7_addHeir_11 : decode cX7_addHeir 11 = .ok (.iconst 1, 1) := by decide +kernel
theorem dX7_addHeir_12 : decode cX7_addHeir 12 = .ok (.iadd, 1) := by decide +kernel
theorem dX7_addHeir_13 : decode cX7_addHeir 13 = .ok (.bipush 9, 2) := by decide +kernel
theorem dX7_addHeir_15 : decode cX7_addHeir 15 = .ok (.invokestatic 64, 3) := by decide +kernel
theorem dX7_addHeir_18 : decode cX7_addHeir 18 = .ok (.iastore, 1) := by decide +kernel
theorem dX7_addHeir_19 : decode cX7_addHeir 19 = .ok (.return_, 1) := by decide +kernel
def St_addHeir (N : Nat) (q a1 : Int) (M : jMem) : Option (Int × jMem) := jchk (0 ≤ a1 ∧ a1 < 7) <| jchk (0 ≤ a1 ∧ a1 < 7) <| jlt (up M ((q + 5)) a1 ((jmin ((w32 (((M ((q + 5)) a1)) + 1))) 9))) fun M3 => some (0, M3)
theorem c_St_addHeir {l : Launch} {g : jG} (N : Nat) (q a1 : Int) (M : jMem) (hq : jk jTX q 7) : ∀ o, St_addHeir N q a1 M = some o → jCt l g jTX yX7_addHeir cX7_addHeir 2 none 3 2 [(2, q), (0, a1)] M o := by
  refine jMet (own := RX7) (em := id) (L := [(0, 2, q), (1, 0, a1)]) (by decide +kernel) rfl (Nat.le_of_ble_eq_true rfl) rfl (fun K hR => ?_)
  unfold St_addHeir
  refine z_aload_n (pc := 0) hR 0 dX7_addHeir_0 rfl rfl ?_
  refine z_getr (pc := 1) hR (c0 := 5) (r := (q + 5)) jf_RX7_24 hq (by decide) rfl rfl dX7_addHeir_1 ?_
  refine z_iload_n (pc := 4) hR 1 dX7_addHeir_4 rfl rfl ?_
  refine z_aload_n (pc := 5) hR 0 dX7_addHeir_5 rfl rfl ?_
  refine z_getr (pc := 6) hR (c0 := 5) (r := (q + 5)) jf_RX7_24 hq (by decide) rfl rfl dX7_addHeir_6 ?_
  refine z_iload_n (pc := 9) hR 1 dX7_addHeir_9 rfl rfl ?_
  refine z_chk (fun hc1 => ?_)
  refine z_iald (pc := 10) hR (n := 7) (kf_7_heirs hq) hc1.1 hc1.2 dX7_addHeir_10 ?_
  refine z_iconst (pc := 11) hR dX7_addHeir_11 rfl ?_
  refine z_iadd (pc := 12) hR dX7_addHeir_12 ?_
  refine z_bipush (pc := 13) hR dX7_addHeir_13 rfl ?_
  refine z_mmin (pc := 15) hR jl_RX7_64 jw_min_s jw_Math jw_min_c (by decide) (Nat.le_of_ble_eq_true rfl) dX7_addHeir_15 ?_
  refine z_chk (fun hc2 => ?_)
  refine z_iast (pc := 18) hR (n := 7) (kf_7_heirs hq) hc2.1 hc2.2 dX7_addHeir_18 (fun M3 => ?_)
  exact z_return (x := 0) (pc := 19) hR rfl rfl dX7_addHeir_19 rfl
theorem dX10_pass_0 : decode cX10_pass 0 = .ok (.aload 4, 2) := by decide +kernel
theorem dX10_pass_2 : decode cX10_pass 2 = .ok (.ifnonnull 11, 3) := by decide +kernel
theorem dX10_pass_5 : decode cX10_pass 5 = .ok (.aload_n 1, 1) := by decide +kernel
theorem dX10_pass_6 : decode cX10_pass 6 = .ok (.aload_n 2, 1) := by decide +kernel
theorem dX10_pass_7 : decode cX10_pass 7 = .ok (.invokestatic 19, 3) := by decide +kernel
theorem dX10_pass_10 : decode cX10_pass 10 = .ok (.goto 11, 3) := by decide +kernel
theorem dX10_pass_13 : decode cX10_pass 13 = .ok (.aload_n 0, 1) := by decide +kernel
theorem dX10_pass_14 : decode cX10_pass 14 = .ok (.aload_n 1, 1) := by decide +kernel
theorem dX10_pass_15 : decode cX10_pass 15 = .ok (.aload_n 2, 1) := by decide +kernel
theorem dX10_pass_16 : decode cX10_pass 16 = .ok (.aload 4, 2) := by decide +kernel
theorem dX10_pass_18 : decode cX10_pass 18 = .ok (.invokevirtual 23, 3) := by decide +kernel
theorem dX10_pass_21 : decode cX10_pass 21 = .ok (.istore 5, 2) := by decide +kernel
theorem dX10_pass_23 : decode cX10_pass 23 = .ok (.iload 5, 2) := by decide +kernel
theorem dX10_pass_25 : decode cX10_pass 25 = .ok (.ifCond .lt 17, 3) := by decide +kernel
theorem dX10_pass_28 : decode cX10_pass 28 = .ok (.aload_n 2, 1) := by decide +kernel
theorem dX10_pass_29 : decode cX10_pass 29 = .ok (.iload 5, 2) := by decide +kernel
theorem dX10_pass_31 : decode cX10_pass 31 = .ok (.bipush 8, 2) := by decide +kernel
theorem dX10_pass_33 : decode cX10_pass 33 = .ok (.idiv, 1) := by decide +kernel
theorem dX10_pass_34 : decode cX10_pass 34 = .ok (.iload 5, 2) := by decide +kernel
theorem dX10_pass_36 : decode cX10_pass 36 = .ok (.bipush 8, 2) := by decide +kernel
theorem dX10_pass_38 : decode cX10_pass 38 = .ok (.irem, 1) := by decide +kernel
theorem dX10_pass_39 : decode cX10_pass 39 = .ok (.invokevirtual 27, 3) := by decide +kernel
theorem dX10_pass_42 : decode cX10_pass 42 = .ok (.aload_n 0, 1) := by decide +kernel
theorem dX10_pass_43 : decode cX10_pass 43 = .ok (.aload_n 2, 1) := by decide +kernel
theorem dX10_pass_44 : decode cX10_pass 44 = .ok (.aload_n 3, 1) := by decide +kernel
theorem dX10_pass_45 : decode cX10_pass 45 = .ok (.invokevirtual 33, 3) := by decide +kernel
theorem dX10_pass_48 : decode cX10_pass 48 = .ok (.aload_n 0, 1) := by decide +kernel
theorem dX10_pass_49 : decode cX10_pass 49 = .ok (.aload_n 2, 1) := by decide +kernel
theorem dX10_pass_50 : decode cX10_pass 50 = .ok (.aload_n 1, 1) := by decide +kernel
theorem dX10_pass_51 : decode cX10_pass 51 = .ok (.getfield 37, 3) := by decide +kernel
theorem dX10_pass_54 : decode cX10_pass 54 = .ok (.invokevirtual 43, 3) := by decide +kernel
theorem dX10_pass_57 : decode cX10_pass 57 = .ok (.aload_n 2, 1) := by decide +kernel
theorem dX10_pass_58 : decode cX10_pass 58 = .ok (.getfield 47, 3) := by decide +kernel
theorem dX10_pass_61 : decode cX10_pass 61 = .ok (.iconst 1, 1) := by decide +kernel
theorem dX10_pass_62 : decode cX10_pass 62 = .ok (.iadd, 1) := by decide +kernel
theorem dX10_pass_63 : decode cX10_pass 63 = .ok (.iconst 5, 1) := by decide +kernel
theorem dX10_pass_64 : decode cX10_pass 64 = .ok (.irem, 1) := by decide +kernel
theorem dX10_pass_65 : decode cX10_pass 65 = .ok (.ifCond .ne 27, 3) := by decide +kernel
theorem dX10_pass_68 : decode cX10_pass 68 = .ok (.iconst 0, 1) := by decide +kernel
theorem dX10_pass_69 : decode cX10_pass 69 = .ok (.istore 6, 2) := by decide +kernel
theorem dX10_pass_71 : decode cX10_pass 71 = .ok (.iload 6, 2) := by decide +kernel
theorem dX10_pass_73 : decode cX10_pass 73 = .ok (.aload_n 2, 1) := by decide +kernel
theorem dX10_pass_74 : decode cX10_pass 74 = .ok (.getfield 50, 3) := by decide +kernel
theorem dX10_pass_77 : decode cX10_pass 77 = .ok (.if_icmp .ge 15, 3) := by decide +kernel
theorem dX10_pass_80 : decode cX10_pass 80 = .ok (.aload_n 2, 1) := by decide +kernel
theorem dX10_pass_81 : decode cX10_pass 81 = .ok (.iload 6, 2) := by decide +kernel
theorem dX10_pass_83 : decode cX10_pass 83 = .ok (.invokevirtual 53, 3) := by decide +kernel
theorem dX10_pass_86 : decode cX10_pass 86 = .ok (.iinc 6 1, 3) := by decide +kernel
theorem dX10_pass_89 : decode cX10_pass 89 = .ok (.goto (-18), 3) := by decide +kernel
theorem dX10_pass_92 : decode cX10_pass 92 = .ok (.aload_n 2, 1) := by decide +kernel
theorem dX10_pass_93 : decode cX10_pass 93 = .ok (.dup, 1) := by decide +kernel
theorem dX10_pass_94 : decode cX10_pass 94 = .ok (.getfield 47, 3) := by decide +kernel
theorem dX10_pass_97 : decode cX10_pass 97 = .ok (.iconst 1, 1) := by decide +kernel
theorem dX10_pass_98 : decode cX10_pass 98 = .ok (.iadd, 1) := by decide +kernel
theorem dX10_pass_99 : decode cX10_pass 99 = .ok (.putfield 47, 3) := by decide +kernel
theorem dX10_pass_102 : decode cX10_pass 102 = .ok (.iload 5, 2) := by decide +kernel
theorem dX10_pass_104 : decode cX10_pass 104 = .ok (.ireturn, 1) := by decide +kernel
def Ye_pass_L71 (N : Nat) (a2 : Int) (j92 : jMem → Option (Int × jMem)) (h71 : (Int × jMem) → Option (Int × jMem)) : Int × jMem → Option (Int × jMem)
  | (x8, M9) => (if x8 < (M9 a2 0) then jbv (St_addHeir N a2 x8 M9) fun M10 => h71 ((w32 (x8 + 1)), M10) else j92 M9)
def Ye_pass (N : Nat) (q a2 a3 a4 : Int) (M : jMem) : Option (Int × jMem) := jlt (fun (u1 : Int) (M2 : jMem) => jlt (fun (M3 : jMem) => jbv (Ye_drawAll N q a2 a3 M3) fun M4 => jbv (Ye_rainOnAll N q a2 ((M4 15 1)) M4) fun M5 => jlt (fun (M6 : jMem) => jlt (up M6 a2 1 ((w32 (((M6 a2 1)) + 1)))) fun M7 => some (u1, M7)) fun j92 => (if (((w32 (((M5 a2 1)) + 1))).tmod 5) = 0 then jfix N (Ye_pass_L71 N a2 j92) (0, M5) else j92 M5)) fun j42 => (if u1 < 0 then j42 M2 else jbv (St_marry N a2 ((w32 (u1.tdiv 8))) ((u1.tmod 8)) M2) fun M11 => j42 M11)) fun j21 => (if a4 < 0 then (Ye_firstTwo N a2 M).bind fun r15 => j21 r15 M else jb1 (Ye_bestTwo N q a2 a4 M) fun r13 M14 => j21 r13 M14)
theorem c_Ye_pass {l : Launch} {g : jG} (N : Nat) (q a2 a3 a4 : Int) (M : jMem) (hq : jk jTX q 10) (ha2 : jk jTX a2 7) (ha3 : ja jTX a3 0 7) (ha4 : a4 < 0 ∨ jk jTX a4 5) : ∀ o, Ye_pass N q a2 a3 a4 M = some o → jCt l g jTX yX10_pass cX10_pass 7 (some .int) 0 9 [(2, q), (2, 15), (2, a2), (2, a3), (2, a4)] M o := by
  refine jMet (own := RX10) (em := id) (L := [(0, 2, q), (1, 2, 15), (2, 2, a2), (3, 2, a3), (4, 2, a4)]) (by decide +kernel) rfl (Nat.le_of_ble_eq_true rfl) rfl (fun K hR => ?_)
  unfold Ye_pass
  refine z_aload (pc := 0) hR 4 dX10_pass_0 rfl ?_
  refine z_join (P := fun j => ∀ (u1 : Int) (M2 : jMem), jZ K id 21 [(0, 2, q), (1, 2, 15), (2, 2, a2), (3, 2, a3)] [(0, u1)] M2 (j u1 M2)) (fun u1 M2 => ?_) (fun j21 hj21 => ?_)
  · refine z_istore (pc := 21) hR (lv' := [(5, 0, u1), (0, 2, q), (1, 2, 15), (2, 2, a2), (3, 2, a3)]) dX10_pass_21 (by decide) rfl ?_
    refine z_iload (pc := 23) hR 0 dX10_pass_23 rfl ?_
    refine z_join (P := fun j => ∀ (M3 : jMem), jZ K id 42 [(0, 2, q), (1, 2, 15), (2, 2, a2), (3, 2, a3), (5, 0, u1)] [] M3 (j M3)) (fun M3 => ?_) (fun j42 hj42 => ?_)
    · refine z_aload_n (pc := 42) hR 0 dX10_pass_42 rfl rfl ?_
      refine z_aload_n (pc := 43) hR 2 dX10_pass_43 rfl rfl ?_
      refine z_aload_n (pc := 44) hR 3 dX10_pass_44 rfl rfl ?_
      refine z_callv0 (pc := 45) (rk' := 3) hR (As := [(2, a2), (2, a3)]) (st := []) jm_X10_drawAll jl_RX10_33 hq (by decide) rfl (c_Ye_drawAll N q a2 a3 M3 hq ha2 ha3) rfl (by decide) (by decide) rfl (Nat.le_of_ble_eq_true rfl) dX10_pass_45 (fun M4 => ?_)
      refine z_aload_n (pc := 48) hR 0 dX10_pass_48 rfl rfl ?_
      refine z_aload_n (pc := 49) hR 2 dX10_pass_49 rfl rfl ?_
      refine z_aload_n (pc := 50) hR 1 dX10_pass_50 rfl rfl ?_
      refine z_geti (pc := 51) hR (j := 1) jf_RX10_37 kxo_15 (by decide) rfl rfl dX10_pass_51 ?_
      refine z_callv0 (pc := 54) (rk' := 3) hR (As := [(2, a2), (0, (M4 15 1))]) (st := []) jm_X10_rainOnAll jl_RX10_43 hq (by decide) rfl (c_Ye_rainOnAll N q a2 ((M4 15 1)) M4 hq ha2) rfl (by decide) (by decide) rfl (Nat.le_of_ble_eq_true rfl) dX10_pass_54 (fun M5 => ?_)
      refine z_aload_n (pc := 57) hR 2 dX10_pass_57 rfl rfl ?_
      refine z_geti (pc := 58) hR (j := 1) jf_RX10_47 ha2 (by decide) rfl rfl dX10_pass_58 ?_
      refine z_iconst (pc := 61) hR dX10_pass_61 rfl ?_
      refine z_iadd (pc := 62) hR dX10_pass_62 ?_
      refine z_iconst (pc := 63) hR dX10_pass_63 rfl ?_
      refine z_irem (pc := 64) hR dX10_pass_64 (by decide) ?_
      refine z_join (P := fun j => ∀ (M6 : jMem), jZ K id 92 [(2, 2, a2), (5, 0, u1)] [] M6 (j M6)) (fun M6 => ?_) (fun j92 hj92 => ?_)
      · refine z_aload_n (pc := 92) hR 0 dX10_pass_92 rfl rfl ?_
        refine z_dup (pc := 93) hR dX10_pass_93 (by decide) ?_
        refine z_geti (pc := 94) hR (j := 1) jf_RX10_47 ha2 (by decide) rfl rfl dX10_pass_94 ?_
        refine z_iconst (pc := 97) hR dX10_pass_97 rfl ?_
        refine z_iadd (pc := 98) hR dX10_pass_98 ?_
        refine z_puti (pc := 99) hR (j := 1) jp_RX10_47 ha2 (by decide) rfl rfl rfl rfl dX10_pass_99 (fun M7 => ?_)
        refine z_iload (pc := 102) hR 1 dX10_pass_102 rfl ?_
        exact z_ireturn (pc := 104) hR rfl rfl dX10_pass_104 rfl
      refine z_ifne (pc := 65) (tgt := 92) hR dX10_pass_65 (by decide) ?_ ?_
      · refine z_pick (pc := 92) (lv' := [(2, 2, a2), (5, 0, u1)]) hR [2, 4] rfl ?_
        exact hj92 M5
      · refine z_iconst (pc := 68) hR dX10_pass_68 rfl ?_
        refine z_istore (pc := 69) hR (lv' := [(6, 0, 0), (0, 2, q), (1, 2, 15), (2, 2, a2), (3, 2, a3), (5, 0, u1)]) dX10_pass_69 (by decide) rfl ?_
        refine z_pick (pc := 71) (lv' := [(2, 2, a2), (5, 0, u1), (6, 0, 0)]) hR [3, 5, 0] rfl ?_
        refine z_fix (σ := Int × jMem) (lv := fun s => [(2, 2, a2), (5, 0, u1), (6, 0, s.1)]) (st := fun _ => []) (M := fun s => s.2) (fun h71 hh71 => ?_) N (0, M5)
        rintro ⟨x8, M9⟩
        show jZ K id 71 [(2, 2, a2), (5, 0, u1), (6, 0, x8)] [] M9 _
        unfold Ye_pass_L71
        refine z_iload (pc := 71) hR 2 dX10_pass_71 rfl ?_
        refine z_aload_n (pc := 73) hR 0 dX10_pass_73 rfl rfl ?_
        refine z_geti (pc := 74) hR (j := 0) jf_RX10_50 ha2 (by decide) rfl rfl dX10_pass_74 ?_
        refine z_icmpge (pc := 77) (tgt := 92) hR dX10_pass_77 (by decide) ?_ ?_
        · refine z_pick (pc := 92) (lv' := [(2, 2, a2), (5, 0, u1)]) hR [0, 1] rfl ?_
          exact hj92 M9
        · refine z_aload_n (pc := 80) hR 0 dX10_pass_80 rfl rfl ?_
          refine z_iload (pc := 81) hR 2 dX10_pass_81 rfl ?_
          refine z_callv0 (pc := 83) (rk' := 3) hR (As := [(0, x8)]) (st := []) jm_X7_addHeir jl_RX10_53 ha2 (by decide) rfl (c_St_addHeir N a2 x8 M9 ha2) rfl (by decide) (by decide) rfl (Nat.le_of_ble_eq_true rfl) dX10_pass_83 (fun M10 => ?_)
          refine z_iinc (pc := 86) hR (j := 2) (lv' := [(6, 0, (w32 (x8 + 1))), (2, 2, a2), (5, 0, u1)]) dX10_pass_86 rfl (by decide) rfl ?_
          refine z_goto (pc := 89) (tgt := 71) hR dX10_pass_89 (by decide) ?_
          refine z_pick (pc := 71) (lv' := [(2, 2, a2), (5, 0, u1), (6, 0, (w32 (x8 + 1)))]) hR [1, 2, 0] rfl ?_
          exact hh71 ((w32 (x8 + 1)), M10)
    refine z_iflt (pc := 25) (tgt := 42) hR dX10_pass_25 (by decide) ?_ ?_
    · refine z_pick (pc := 42) (lv' := [(0, 2, q), (1, 2, 15), (2, 2, a2), (3, 2, a3), (5, 0, u1)]) hR [1, 2, 3, 4, 0] rfl ?_
      exact hj42 M2
    · refine z_aload_n (pc := 28) hR 3 dX10_pass_28 rfl rfl ?_
      refine z_iload (pc := 29) hR 0 dX10_pass_29 rfl ?_
      refine z_bipush (pc := 31) hR dX10_pass_31 rfl ?_
      refine z_idiv (pc := 33) hR dX10_pass_33 (by decide) ?_
      refine z_iload (pc := 34) hR 0 dX10_pass_34 rfl ?_
      refine z_bipush (pc := 36) hR dX10_pass_36 rfl ?_
      refine z_irem (pc := 38) hR dX10_pass_38 (by decide) ?_
      refine z_callv0 (pc := 39) (rk' := 3) hR (As := [(0, (w32 (u1.tdiv 8))), (0, (u1.tmod 8))]) (st := []) jm_X7_marry jl_RX10_27 ha2 (by decide) rfl (c_St_marry N a2 ((w32 (u1.tdiv 8))) ((u1.tmod 8)) M2 ha2) rfl (by decide) (by decide) rfl (Nat.le_of_ble_eq_true rfl) dX10_pass_39 (fun M11 => ?_)
      refine z_pick (pc := 42) (lv' := [(0, 2, q), (1, 2, 15), (2, 2, a2), (3, 2, a3), (5, 0, u1)]) hR [1, 2, 3, 4, 0] rfl ?_
      exact hj42 M11
  refine z_ifnonnull (pc := 2) (tgt := 13) hR dX10_pass_2 (by decide) (fun hz12 => ?_) (fun _ => ?_)
  · refine z_aload_n (pc := 13) hR 0 dX10_pass_13 rfl rfl ?_
    refine z_aload_n (pc := 14) hR 1 dX10_pass_14 rfl rfl ?_
    refine z_aload_n (pc := 15) hR 2 dX10_pass_15 rfl rfl ?_
    refine z_aload (pc := 16) hR 4 dX10_pass_16 rfl ?_
    refine z_callv1 (pc := 18) hR (As := [(2, 15), (2, a2), (2, a4)]) (st := []) jm_X10_bestTwo jl_RX10_23 hq (by decide) rfl (by decide) (c_Ye_bestTwo N q a2 a4 M hq ha2 (jnn ha4 hz12)) rfl (by decide) (by decide) rfl (Nat.le_of_ble_eq_true rfl) dX10_pass_18 (fun r13 M14 => ?_)
    refine z_pick (pc := 21) (lv' := [(0, 2, q), (1, 2, 15), (2, 2, a2), (3, 2, a3)]) hR [0, 1, 2, 3] rfl ?_
    exact hj21 r13 M14
  · refine z_aload_n (pc := 5) hR 1 dX10_pass_5 rfl rfl ?_
    refine z_aload_n (pc := 6) hR 2 dX10_pass_6 rfl rfl ?_
    refine z_callsp (pc := 7) hR (As := [(2, 15), (2, a2)]) (st := []) jm_X10_firstTwo jl_RX10_19 (by decide) (c_Ye_firstTwo N a2 M ha2) rfl (by decide) (by decide) rfl (Nat.le_of_ble_eq_true rfl) dX10_pass_7 (fun r15 => ?_)
    refine z_goto (pc := 10) (tgt := 21) hR dX10_pass_10 (by decide) ?_
    refine z_pick (pc := 21) (lv' := [(0, 2, q), (1, 2, 15), (2, 2, a2), (3, 2, a3)]) hR [0, 1, 2, 3] rfl ?_
    exact hj21 r15 M
theorem dX11_year_0 : decode cX11_year 0 = .ok (.aload_n 0, 1) := by decide +kernel
theorem dX11_year_1 : decode cX11_year 1 = .ok (.invokevirtual 177, 3) := by decide +kernel
theorem dX11_year_4 : decode cX11_year 4 = .ok (.ifCond .eq 19, 3) := by decide +kernel
theorem dX11_year_7 : decode cX11_year 7 = .ok (.aload_n 0, 1) := by decide +kernel
theorem dX11_year_8 : decode cX11_year 8 = .ok (.getfield 43, 3) := by decide +kernel
theorem dX11_year_11 : decode cX11_year 11 = .ok (.getfield 102, 3) := by decide +kernel
theorem dX11_year_14 : decode cX11_year 14 = .ok (.getfield 188, 3) := by decide +kernel
theorem dX11_year_17 : decode cX11_year 17 = .ok (.sipush 999, 3) := by decide +kernel
theorem dX11_year_20 : decode cX11_year 20 = .ok (.if_icmp .lt 5, 3) := by decide +kernel
theorem dX11_year_23 : decode cX11_year 23 = .ok (.iconst (-1), 1) := by decide +kernel
theorem dX11_year_24 : decode cX11_year 24 = .ok (.ireturn, 1) := by decide +kernel
theorem dX11_year_25 : decode cX11_year 25 = .ok (.aload_n 0, 1) := by decide +kernel
theorem dX11_year_26 : decode cX11_year 26 = .ok (.getfield 50, 3) := by decide +kernel
theorem dX11_year_29 : decode cX11_year 29 = .ok (.aload_n 0, 1) := by decide +kernel
theorem dX11_year_30 : decode cX11_year 30 = .ok (.getfield 43, 3) := by decide +kernel
theorem dX11_year_33 : decode cX11_year 33 = .ok (.getfield 102, 3) := by decide +kernel
theorem dX11_year_36 : decode cX11_year 36 = .ok (.invokevirtual 211, 3) := by decide +kernel
theorem dX11_year_39 : decode cX11_year 39 = .ok (.aload_n 0, 1) := by decide +kernel
theorem dX11_year_40 : decode cX11_year 40 = .ok (.getfield 61, 3) := by decide +kernel
theorem dX11_year_43 : decode cX11_year 43 = .ok (.aload_n 0, 1) := by decide +kernel
theorem dX11_year_44 : decode cX11_year 44 = .ok (.getfield 43, 3) := by decide +kernel
theorem dX11_year_47 : decode cX11_year 47 = .ok (.getfield 95, 3) := by decide +kernel
theorem dX11_year_50 : decode cX11_year 50 = .ok (.aload_n 0, 1) := by decide +kernel
theorem dX11_year_51 : decode cX11_year 51 = .ok (.getfield 43, 3) := by decide +kernel
theorem dX11_year_54 : decode cX11_year 54 = .ok (.getfield 102, 3) := by decide +kernel
theorem dX11_year_57 : decode cX11_year 57 = .ok (.aload_n 0, 1) := by decide +kernel
theorem dX11_year_58 : decode cX11_year 58 = .ok (.getfield 43, 3) := by decide +kernel
theorem dX11_year_61 : decode cX11_year 61 = .ok (.getfield 95, 3) := by decide +kernel
theorem dX11_year_64 : decode cX11_year 64 = .ok (.getfield 165, 3) := by decide +kernel
theorem dX11_year_67 : decode cX11_year 67 = .ok (.aload_n 0, 1) := by decide +kernel
theorem dX11_year_68 : decode cX11_year 68 = .ok (.invokevirtual 215, 3) := by decide +kernel
theorem dX11_year_71 : decode cX11_year 71 = .ok (.invokevirtual 219, 3) := by decide +kernel
theorem dX11_year_74 : decode cX11_year 74 = .ok (.ireturn, 1) := by decide +kernel
def x_year (N : Nat) (M : jMem) : Option (Int × jMem) := (x_hasParish N M).bind fun r1 => (if r1 = 0 then some ((-1), M) else (if (M 21 1) < 999 then jbv (Ac_keep N 21 M) fun M2 => (x_ruleInForce N M2).bind fun r3 => jchk (jnb jTX r3 5 = true) <| jb1 (Ye_pass N 154 21 18 r3 M2) fun r5 M6 => some (r5, M6) else some ((-1), M)))
theorem c_x_year {l : Launch} {g : jG} (N : Nat) (M : jMem)  : ∀ o, x_year N  M = some o → jCt l g jTX yX11_year cX11_year 1 (some .int) 0 11 [(2, 0)] M o := by
  refine jMet (own := RX11) (em := id) (L := [(0, 2, 0)]) (by decide +kernel) rfl (Nat.le_of_ble_eq_true rfl) rfl (fun K hR => ?_)
  unfold x_year
  refine z_aload_n (pc := 0) hR 0 dX11_year_0 rfl rfl ?_
  refine z_callvp (pc := 1) hR (As := []) (st := []) jm_X11_hasParish jl_RX11_177 kxo_0 (by decide) rfl (by decide) (c_x_hasParish N M) rfl (by decide) (by decide) rfl (Nat.le_of_ble_eq_true rfl) dX11_year_1 (fun r1 => ?_)
  refine z_ifeq (pc := 4) (tgt := 23) hR dX11_year_4 (by decide) ?_ ?_
  · refine z_iconst (pc := 23) hR dX11_year_23 rfl ?_
    exact z_ireturn (pc := 24) hR rfl rfl dX11_year_24 rfl
  · refine z_aload_n (pc := 7) hR 0 dX11_year_7 rfl rfl ?_
    refine z_getr (pc := 8) hR (c0 := 14) (r := 14) jf_RX11_43 kxo_0 (by decide) rfl rfl dX11_year_8 ?_
    refine z_getr (pc := 11) hR (c0 := 7) (r := 21) jf_RX11_102 kxo_14 (by decide) rfl rfl dX11_year_11 ?_
    refine z_geti (pc := 14) hR (j := 1) jf_RX11_188 kxo_21 (by decide) rfl rfl dX11_year_14 ?_
    refine z_sipush (pc := 17) hR dX11_year_17 rfl ?_
    refine z_icmplt (pc := 20) (tgt := 25) hR dX11_year_20 (by decide) ?_ ?_
    · refine z_aload_n (pc := 25) hR 0 dX11_year_25 rfl rfl ?_
      refine z_getr (pc := 26) hR (c0 := 31) (r := 31) jf_RX11_50 kxo_0 (by decide) rfl rfl dX11_year_26 ?_
      refine z_aload_n (pc := 29) hR 0 dX11_year_29 rfl rfl ?_
      refine z_getr (pc := 30) hR (c0 := 14) (r := 14) jf_RX11_43 kxo_0 (by decide) rfl rfl dX11_year_30 ?_
      refine z_getr (pc := 33) hR (c0 := 7) (r := 21) jf_RX11_102 kxo_14 (by decide) rfl rfl dX11_year_33 ?_
      refine z_callv0 (pc := 36) (rk' := 3) hR (As := [(2, 21)]) (st := []) jm_X0_keep jl_RX11_211 kxo_31 (by decide) rfl (c_Ac_keep N 21 M kxo_21) rfl (by decide) (by decide) rfl (Nat.le_of_ble_eq_true rfl) dX11_year_36 (fun M2 => ?_)
      refine z_aload_n (pc := 39) hR 0 dX11_year_39 rfl rfl ?_
      refine z_getr (pc := 40) hR (c0 := 154) (r := 154) jf_RX11_61 kxo_0 (by decide) rfl rfl dX11_year_40 ?_
      refine z_aload_n (pc := 43) hR 0 dX11_year_43 rfl rfl ?_
      refine z_getr (pc := 44) hR (c0 := 14) (r := 14) jf_RX11_43 kxo_0 (by decide) rfl rfl dX11_year_44 ?_
      refine z_getr (pc := 47) hR (c0 := 1) (r := 15) jf_RX11_95 kxo_14 (by decide) rfl rfl dX11_year_47 ?_
      refine z_aload_n (pc := 50) hR 0 dX11_year_50 rfl rfl ?_
      refine z_getr (pc := 51) hR (c0 := 14) (r := 14) jf_RX11_43 kxo_0 (by decide) rfl rfl dX11_year_51 ?_
      refine z_getr (pc := 54) hR (c0 := 7) (r := 21) jf_RX11_102 kxo_14 (by decide) rfl rfl dX11_year_54 ?_
      refine z_aload_n (pc := 57) hR 0 dX11_year_57 rfl rfl ?_
      refine z_getr (pc := 58) hR (c0 := 14) (r := 14) jf_RX11_43 kxo_0 (by decide) rfl rfl dX11_year_58 ?_
      refine z_getr (pc := 61) hR (c0 := 1) (r := 15) jf_RX11_95 kxo_14 (by decide) rfl rfl dX11_year_61 ?_
      refine z_getr (pc := 64) hR (c0 := 3) (r := 18) jf_RX11_165 kxo_15 (by decide) rfl rfl dX11_year_64 ?_
      refine z_aload_n (pc := 67) hR 0 dX11_year_67 rfl rfl ?_
      refine z_callvp (pc := 68) hR (As := []) (st := [(2, 18), (2, 21), (2, 15), (2, 154)]) jm_X11_ruleInForce jl_RX11_215 kxo_0 (by decide) rfl (by decide) (c_x_ruleInForce N M2) rfl (by decide) (by decide) rfl (Nat.le_of_ble_eq_true rfl) dX11_year_68 (fun r3 => ?_)
      refine z_chk (fun hc4 => ?_)
      refine z_callv1 (pc := 71) hR (As := [(2, 15), (2, 21), (2, 18), (2, r3)]) (st := []) jm_X10_pass jl_RX11_219 kxo_154 (by decide) rfl (by decide) (c_Ye_pass N 154 21 18 r3 M2 kxo_154 kxo_21 kxa_18 (jnb_ok hc4)) rfl (by decide) (by decide) rfl (Nat.le_of_ble_eq_true rfl) dX11_year_71 (fun r5 M6 => ?_)
      exact z_ireturn (pc := 74) hR rfl rfl dX11_year_74 rfl
    · refine z_iconst (pc := 23) hR dX11_year_23 rfl ?_
      exact z_ireturn (pc := 24) hR rfl rfl dX11_year_24 rfl
theorem dX11_wed_0 : decode cX11_wed 0 = .ok (.aload_n 0, 1) := by decide +kernel
theorem dX11_wed_1 : decode cX11_wed 1 = .ok (.iload_n 1, 1) := by decide +kernel
theorem dX11_wed_2 : decode cX11_wed 2 = .ok (.invokevirtual 162, 3) := by decide +kernel
theorem dX11_wed_5 : decode cX11_wed 5 = .ok (.ifCond .eq 33, 3) := by decide +kernel
theorem dX11_wed_8 : decode cX11_wed 8 = .ok (.aload_n 0, 1) := by decide +kernel
theorem dX11_wed_9 : decode cX11_wed 9 = .ok (.iload_n 2, 1) := by decide +kernel
theorem dX11_wed_10 : decode cX11_wed 10 = .ok (.invokevirtual 162, 3) := by decide +kernel
theorem dX11_wed_13 : decode cX11_wed 13 = .ok (.ifCond .eq 25, 3) := by decide +kernel
theorem dX11_wed_16 : decode cX11_wed 16 = .ok (.aload_n 0, 1) := by decide +kernel
theorem dX11_wed_17 : decode cX11_wed 17 = .ok (.getfield 43, 3) := by decide +kernel
theorem dX11_wed_20 : decode cX11_wed 20 = .ok (.getfield 102, 3) := by decide +kernel
theorem dX11_wed_23 : decode cX11_wed 23 = .ok (.aload_n 0, 1) := by decide +kernel
theorem dX11_wed_24 : decode cX11_wed 24 = .ok (.getfield 43, 3) := by decide +kernel
theorem dX11_wed_27 : decode cX11_wed 27 = .ok (.getfield 95, 3) := by decide +kernel
theorem dX11_wed_30 : decode cX11_wed 30 = .ok (.iload_n 1, 1) := by decide +kernel
theorem dX11_wed_31 : decode cX11_wed 31 = .ok (.iload_n 2, 1) := by decide +kernel
theorem dX11_wed_32 : decode cX11_wed 32 = .ok (.invokevirtual 223, 3) := by decide +kernel
theorem dX11_wed_35 : decode cX11_wed 35 = .ok (.ifCond .ne 5, 3) := by decide +kernel
theorem dX11_wed_38 : decode cX11_wed 38 = .ok (.iconst (-1), 1) := by decide +kernel
theorem dX11_wed_39 : decode cX11_wed 39 = .ok (.ireturn, 1) := by decide +kernel
theorem dX11_wed_40 : decode cX11_wed 40 = .ok (.aload_n 0, 1) := by decide +kernel
theorem dX11_wed_41 : decode cX11_wed 41 = .ok (.getfield 50, 3) := by decide +kernel
theorem dX11_wed_44 : decode cX11_wed 44 = .ok (.aload_n 0, 1) := by decide +kernel
theorem dX11_wed_45 : decode cX11_wed 45 = .ok (.getfield 43, 3) := by decide +kernel
theorem dX11_wed_48 : decode cX11_wed 48 = .ok (.getfield 102, 3) := by decide +kernel
theorem dX11_wed_51 : decode cX11_wed 51 = .ok (.invokevirtual 211, 3) := by decide +kernel
theorem dX11_wed_54 : decode cX11_wed 54 = .ok (.aload_n 0, 1) := by decide +kernel
theorem dX11_wed_55 : decode cX11_wed 55 = .ok (.getfield 43, 3) := by decide +kernel
theorem dX11_wed_58 : decode cX11_wed 58 = .ok (.getfield 102, 3) := by decide +kernel
theorem dX11_wed_61 : decode cX11_wed 61 = .ok (.iload_n 1, 1) := by decide +kernel
theorem dX11_wed_62 : decode cX11_wed 62 = .ok (.iload_n 2, 1) := by decide +kernel
theorem dX11_wed_63 : decode cX11_wed 63 = .ok (.invokevirtual 227, 3) := by decide +kernel
theorem dX11_wed_66 : decode cX11_wed 66 = .ok (.aload_n 0, 1) := by decide +kernel
theorem dX11_wed_67 : decode cX11_wed 67 = .ok (.getfield 43, 3) := by decide +kernel
theorem dX11_wed_70 : decode cX11_wed 70 = .ok (.getfield 102, 3) := by decide +kernel
theorem dX11_wed_73 : decode cX11_wed 73 = .ok (.invokevirtual 231, 3) := by decide +kernel
theorem dX11_wed_76 : decode cX11_wed 76 = .ok (.ireturn, 1) := by decide +kernel
def x_wed (N : Nat) (a1 a2 : Int) (M : jMem) : Option (Int × jMem) := (x_isFarm N a1 M).bind fun r1 => (if r1 = 0 then some ((-1), M) else (x_isFarm N a2 M).bind fun r2 => (if r2 = 0 then some ((-1), M) else (St_canWed N 21 a1 a2 M).bind fun r3 => (if r3 = 0 then some ((-1), M) else jbv (Ac_keep N 21 M) fun M4 => jbv (St_marry N 21 a1 a2 M4) fun M5 => (St_homes N 21 M5).bind fun r6 => some (r6, M5))))
theorem c_x_wed {l : Launch} {g : jG} (N : Nat) (a1 a2 : Int) (M : jMem)  : ∀ o, x_wed N a1 a2 M = some o → jCt l g jTX yX11_wed cX11_wed 3 (some .int) 0 6 [(2, 0), (0, a1), (0, a2)] M o := by
  refine jMet (own := RX11) (em := id) (L := [(0, 2, 0), (1, 0, a1), (2, 0, a2)]) (by decide +kernel) rfl (Nat.le_of_ble_eq_true rfl) rfl (fun K hR => ?_)
  unfold x_wed
  refine z_aload_n (pc := 0) hR 0 dX11_wed_0 rfl rfl ?_
  refine z_iload_n (pc := 1) hR 1 dX11_wed_1 rfl rfl ?_
  refine z_callvp (pc := 2) hR (As := [(0, a1)]) (st := []) jm_X11_isFarm jl_RX11_162 kxo_0 (by decide) rfl (by decide) (c_x_isFarm N a1 M) rfl (by decide) (by decide) rfl (Nat.le_of_ble_eq_true rfl) dX11_wed_2 (fun r1 => ?_)
  refine z_ifeq (pc := 5) (tgt := 38) hR dX11_wed_5 (by decide) ?_ ?_
  · refine z_iconst (pc := 38) hR dX11_wed_38 rfl ?_
    exact z_ireturn (pc := 39) hR rfl rfl dX11_wed_39 rfl
  · refine z_aload_n (pc := 8) hR 0 dX11_wed_8 rfl rfl ?_
    refine z_iload_n (pc := 9) hR 2 dX11_wed_9 rfl rfl ?_
    refine z_callvp (pc := 10) hR (As := [(0, a2)]) (st := []) jm_X11_isFarm jl_RX11_162 kxo_0 (by decide) rfl (by decide) (c_x_isFarm N a2 M) rfl (by decide) (by decide) rfl (Nat.le_of_ble_eq_true rfl) dX11_wed_10 (fun r2 => ?_)
    refine z_ifeq (pc := 13) (tgt := 38) hR dX11_wed_13 (by decide) ?_ ?_
    · refine z_iconst (pc := 38) hR dX11_wed_38 rfl ?_
      exact z_ireturn (pc := 39) hR rfl rfl dX11_wed_39 rfl
    · refine z_aload_n (pc := 16) hR 0 dX11_wed_16 rfl rfl ?_
      refine z_getr (pc := 17) hR (c0 := 14) (r := 14) jf_RX11_43 kxo_0 (by decide) rfl rfl dX11_wed_17 ?_
      refine z_getr (pc := 20) hR (c0 := 7) (r := 21) jf_RX11_102 kxo_14 (by decide) rfl rfl dX11_wed_20 ?_
      refine z_aload_n (pc := 23) hR 0 dX11_wed_23 rfl rfl ?_
      refine z_getr (pc := 24) hR (c0 := 14) (r := 14) jf_RX11_43 kxo_0 (by decide) rfl rfl dX11_wed_24 ?_
      refine z_getr (pc := 27) hR (c0 := 1) (r := 15) jf_RX11_95 kxo_14 (by decide) rfl rfl dX11_wed_27 ?_
      refine z_iload_n (pc := 30) hR 1 dX11_wed_30 rfl rfl ?_
      refine z_iload_n (pc := 31) hR 2 dX11_wed_31 rfl rfl ?_
      refine z_callvp (pc := 32) hR (As := [(2, 15), (0, a1), (0, a2)]) (st := []) jm_X7_canWed jl_RX11_223 kxo_21 (by decide) rfl (by decide) (c_St_canWed N 21 a1 a2 M kxo_21) rfl (by decide) (by decide) rfl (Nat.le_of_ble_eq_true rfl) dX11_wed_32 (fun r3 => ?_)
      refine z_ifne (pc := 35) (tgt := 40) hR dX11_wed_35 (by decide) ?_ ?_
      · refine z_aload_n (pc := 40) hR 0 dX11_wed_40 rfl rfl ?_
        refine z_getr (pc := 41) hR (c0 := 31) (r := 31) jf_RX11_50 kxo_0 (by decide) rfl rfl dX11_wed_41 ?_
        refine z_aload_n (pc := 44) hR 0 dX11_wed_44 rfl rfl ?_
        refine z_getr (pc := 45) hR (c0 := 14) (r := 14) jf_RX11_43 kxo_0 (by decide) rfl rfl dX11_wed_45 ?_
        refine z_getr (pc := 48) hR (c0 := 7) (r := 21) jf_RX11_102 kxo_14 (by decide) rfl rfl dX11_wed_48 ?_
        refine z_callv0 (pc := 51) (rk' := 3) hR (As := [(2, 21)]) (st := []) jm_X0_keep jl_RX11_211 kxo_31 (by decide) rfl (c_Ac_keep N 21 M kxo_21) rfl (by decide) (by decide) rfl (Nat.le_of_ble_eq_true rfl) dX11_wed_51 (fun M4 => ?_)
        refine z_aload_n (pc := 54) hR 0 dX11_wed_54 rfl rfl ?_
        refine z_getr (pc := 55) hR (c0 := 14) (r := 14) jf_RX11_43 kxo_0 (by decide) rfl rfl dX11_wed_55 ?_
        refine z_getr (pc := 58) hR (c0 := 7) (r := 21) jf_RX11_102 kxo_14 (by decide) rfl rfl dX11_wed_58 ?_
        refine z_iload_n (pc := 61) hR 1 dX11_wed_61 rfl rfl ?_
        refine z_iload_n (pc := 62) hR 2 dX11_wed_62 rfl rfl ?_
        refine z_callv0 (pc := 63) (rk' := 3) hR (As := [(0, a1), (0, a2)]) (st := []) jm_X7_marry jl_RX11_227 kxo_21 (by decide) rfl (c_St_marry N 21 a1 a2 M4 kxo_21) rfl (by decide) (by decide) rfl (Nat.le_of_ble_eq_true rfl) dX11_wed_63 (fun M5 => ?_)
        refine z_aload_n (pc := 66) hR 0 dX11_wed_66 rfl rfl ?_
        refine z_getr (pc := 67) hR (c0 := 14) (r := 14) jf_RX11_43 kxo_0 (by decide) rfl rfl dX11_wed_67 ?_
        refine z_getr (pc := 70) hR (c0 := 7) (r := 21) jf_RX11_102 kxo_14 (by decide) rfl rfl dX11_wed_70 ?_
        refine z_callvp (pc := 73) hR (As := []) (st := []) jm_X7_homes jl_RX11_231 kxo_21 (by decide) rfl (by decide) (c_St_homes N 21 M5 kxo_21) rfl (by decide) (by decide) rfl (Nat.le_of_ble_eq_true rfl) dX11_wed_73 (fun r6 => ?_)
        exact z_ireturn (pc := 76) hR rfl rfl dX11_wed_76 rfl
      · refine z_iconst (pc := 38) hR dX11_wed_38 rfl ?_
        exact z_ireturn (pc := 39) hR rfl rfl dX11_wed_39 rfl
theorem dX11_pour_0 : decode cX11_pour 0 = .ok (.aload_n 0, 1) := by decide +kernel
theorem dX11_pour_1 : decode cX11_pour 1 = .ok (.iload_n 1, 1) := by decide +kernel
theorem dX11_pour_2 : decode cX11_pour 2 = .ok (.invokevirtual 144, 3) := by decide +kernel
theorem dX11_pour_5 : decode cX11_pour 5 = .ok (.ifCond .eq 13, 3) := by decide +kernel
theorem dX11_pour_8 : decode cX11_pour 8 = .ok (.iload_n 2, 1) := by decide +kernel
theorem dX11_pour_9 : decode cX11_pour 9 = .ok (.iconst 1, 1) := by decide +kernel
theorem dX11_pour_10 : decode cX11_pour 10 = .ok (.bipush 30, 2) := by decide +kernel
theorem dX11_pour_12 : decode cX11_pour 12 = .ok (.invokestatic 137, 3) := by decide +kernel
theorem dX11_pour_15 : decode cX11_pour 15 = .ok (.ifCond .ne 5, 3) := by decide +kernel
theorem dX11_pour_18 : decode cX11_pour 18 = .ok (.iconst (-1), 1) := by decide +kernel
theorem dX11_pour_19 : decode cX11_pour 19 = .ok (.ireturn, 1) := by decide +kernel
theorem dX11_pour_20 : decode cX11_pour 20 = .ok (.aload_n 0, 1) := by decide +kernel
theorem dX11_pour_21 : decode cX11_pour 21 = .ok (.getfield 50, 3) := by decide +kernel
theorem dX11_pour_24 : decode cX11_pour 24 = .ok (.aload_n 0, 1) := by decide +kernel
theorem dX11_pour_25 : decode cX11_pour 25 = .ok (.getfield 43, 3) := by decide +kernel
theorem dX11_pour_28 : decode cX11_pour 28 = .ok (.getfield 102, 3) := by decide +kernel
theorem dX11_pour_31 : decode cX11_pour 31 = .ok (.invokevirtual 211, 3) := by decide +kernel
theorem dX11_pour_34 : decode cX11_pour 34 = .ok (.aload_n 0, 1) := by decide +kernel
theorem dX11_pour_35 : decode cX11_pour 35 = .ok (.getfield 43, 3) := by decide +kernel
theorem dX11_pour_38 : decode cX11_pour 38 = .ok (.getfield 102, 3) := by decide +kernel
theorem dX11_pour_41 : decode cX11_pour 41 = .ok (.iload_n 1, 1) := by decide +kernel
theorem dX11_pour_42 : decode cX11_pour 42 = .ok (.iload_n 2, 1) := by decide +kernel
theorem dX11_pour_43 : decode cX11_pour 43 = .ok (.invokevirtual 234, 3) := by decide +kernel
theorem dX11_pour_46 : decode cX11_pour 46 = .ok (.aload_n 0, 1) := by decide +kernel
theorem dX11_pour_47 : decode cX11_pour 47 = .ok (.getfield 43, 3) := by decide +kernel
theorem dX11_pour_50 : decode cX11_pour 50 = .ok (.getfield 102, 3) := by decide +kernel
theorem dX11_pour_53 : decode cX11_pour 53 = .ok (.getfield 155, 3) := by decide +kernel
theorem dX11_pour_56 : decode cX11_pour 56 = .ok (.iload_n 1, 1) := by decide +kernel
theorem dX11_pour_57 : decode cX11_pour 57 = .ok (.iaload, 1) := by decide +kernel
theorem dX11_pour_58 : decode cX11_pour 58 = .ok (.ireturn, 1) := by decide +kernel
def x_pour (N : Nat) (a1 a2 : Int) (M : jMem) : Option (Int × jMem) := (x_isWell N a1 M).bind fun r1 => (if r1 = 0 then some ((-1), M) else (x_isWithin N a2 1 30 M).bind fun r2 => (if r2 = 0 then some ((-1), M) else jbv (Ac_keep N 21 M) fun M3 => jbv (St_addWater N 21 a1 a2 M3) fun M4 => jchk (0 ≤ a1 ∧ a1 < 7) <| some ((M4 24 a1), M4)))
theorem c_x_pour {l : Launch} {g : jG} (N : Nat) (a1 a2 : Int) (M : jMem)  : ∀ o, x_pour N a1 a2 M = some o → jCt l g jTX yX11_pour cX11_pour 3 (some .int) 0 6 [(2, 0), (0, a1), (0, a2)] M o := by
  refine jMet (own := RX11) (em := id) (L := [(0, 2, 0), (1, 0, a1), (2, 0, a2)]) (by decide +kernel) rfl (Nat.le_of_ble_eq_true rfl) rfl (fun K hR => ?_)
  unfold x_pour
  refine z_aload_n (pc := 0) hR 0 dX11_pour_0 rfl rfl ?_
  refine z_iload_n (pc := 1) hR 1 dX11_pour_1 rfl rfl ?_
  refine z_callvp (pc := 2) hR (As := [(0, a1)]) (st := []) jm_X11_isWell jl_RX11_144 kxo_0 (by decide) rfl (by decide) (c_x_isWell N a1 M) rfl (by decide) (by decide) rfl (Nat.le_of_ble_eq_true rfl) dX11_pour_2 (fun r1 => ?_)
  refine z_ifeq (pc := 5) (tgt := 18) hR dX11_pour_5 (by decide) ?_ ?_
  · refine z_iconst (pc := 18) hR dX11_pour_18 rfl ?_
    exact z_ireturn (pc := 19) hR rfl rfl dX11_pour_19 rfl
  · refine z_iload_n (pc := 8) hR 2 dX11_pour_8 rfl rfl ?_
    refine z_iconst (pc := 9) hR dX11_pour_9 rfl ?_
    refine z_bipush (pc := 10) hR dX11_pour_10 rfl ?_
    refine z_callsp (pc := 12) hR (As := [(0, a2), (0, 1), (0, 30)]) (st := []) jm_X11_isWithin jl_RX11_137 (by decide) (c_x_isWithin N a2 1 30 M) rfl (by decide) (by decide) rfl (Nat.le_of_ble_eq_true rfl) dX11_pour_12 (fun r2 => ?_)
    refine z_ifne (pc := 15) (tgt := 20) hR dX11_pour_15 (by decide) ?_ ?_
    · refine z_aload_n (pc := 20) hR 0 dX11_pour_20 rfl rfl ?_
      refine z_getr (pc := 21) hR (c0 := 31) (r := 31) jf_RX11_50 kxo_0 (by decide) rfl rfl dX11_pour_21 ?_
      refine z_aload_n (pc := 24) hR 0 dX11_pour_24 rfl rfl ?_
      refine z_getr (pc := 25) hR (c0 := 14) (r := 14) jf_RX11_43 kxo_0 (by decide) rfl rfl dX11_pour_25 ?_
      refine z_getr (pc := 28) hR (c0 := 7) (r := 21) jf_RX11_102 kxo_14 (by decide) rfl rfl dX11_pour_28 ?_
      refine z_callv0 (pc := 31) (rk' := 3) hR (As := [(2, 21)]) (st := []) jm_X0_keep jl_RX11_211 kxo_31 (by decide) rfl (c_Ac_keep N 21 M kxo_21) rfl (by decide) (by decide) rfl (Nat.le_of_ble_eq_true rfl) dX11_pour_31 (fun M3 => ?_)
      refine z_aload_n (pc := 34) hR 0 dX11_pour_34 rfl rfl ?_
      refine z_getr (pc := 35) hR (c0 := 14) (r := 14) jf_RX11_43 kxo_0 (by decide) rfl rfl dX11_pour_35 ?_
      refine z_getr (pc := 38) hR (c0 := 7) (r := 21) jf_RX11_102 kxo_14 (by decide) rfl rfl dX11_pour_38 ?_
      refine z_iload_n (pc := 41) hR 1 dX11_pour_41 rfl rfl ?_
      refine z_iload_n (pc := 42) hR 2 dX11_pour_42 rfl rfl ?_
      refine z_callv0 (pc := 43) (rk' := 3) hR (As := [(0, a1), (0, a2)]) (st := []) jm_X7_addWater jl_RX11_234 kxo_21 (by decide) rfl (c_St_addWater N 21 a1 a2 M3 kxo_21) rfl (by decide) (by decide) rfl (Nat.le_of_ble_eq_true rfl) dX11_pour_43 (fun M4 => ?_)
      refine z_aload_n (pc := 46) hR 0 dX11_pour_46 rfl rfl ?_
      refine z_getr (pc := 47) hR (c0 := 14) (r := 14) jf_RX11_43 kxo_0 (by decide) rfl rfl dX11_pour_47 ?_
      refine z_getr (pc := 50) hR (c0 := 7) (r := 21) jf_RX11_102 kxo_14 (by decide) rfl rfl dX11_pour_50 ?_
      refine z_getr (pc := 53) hR (c0 := 3) (r := 24) jf_RX11_155 kxo_21 (by decide) rfl rfl dX11_pour_53 ?_
      refine z_iload_n (pc := 56) hR 1 dX11_pour_56 rfl rfl ?_
      refine z_chk (fun hc5 => ?_)
      refine z_iald (pc := 57) hR (n := 7) kxa_24 hc5.1 hc5.2 dX11_pour_57 ?_
      exact z_ireturn (pc := 58) hR rfl rfl dX11_pour_58 rfl
    · refine z_iconst (pc := 18) hR dX11_pour_18 rfl ?_
      exact z_ireturn (pc := 19) hR rfl rfl dX11_pour_19 rfl
theorem dX11_dig_0 : decode cX11_dig 0 = .ok (.aload_n 0, 1) := by decide +kernel
theorem dX11_dig_1 : decode cX11_dig 1 = .ok (.iload_n 1, 1) := by decide +kernel
theorem dX11_dig_2 : decode cX11_dig 2 = .ok (.invokevirtual 144, 3) := by decide +kernel
theorem dX11_dig_5 : decode cX11_dig 5 = .ok (.ifCond .eq 13, 3) := by decide +kernel
theorem dX11_dig_8 : decode cX11_dig 8 = .ok (.iload_n 2, 1) := by decide +kernel
theorem dX11_dig_9 : decode cX11_dig 9 = .ok (.iconst 1, 1) := by decide +kernel
theorem dX11_dig_10 : decode cX11_dig 10 = .ok (.bipush 9, 2) := by decide +kernel
theorem dX11_dig_12 : decode cX11_dig 12 = .ok (.invokestatic 137, 3) := by decide +kernel
theorem dX11_dig_15 : decode cX11_dig 15 = .ok (.ifCond .ne 5, 3) := by decide +kernel
theorem dX11_dig_18 : decode cX11_dig 18 = .ok (.iconst (-1), 1) := by decide +kernel
theorem dX11_dig_19 : decode cX11_dig 19 = .ok (.ireturn, 1) := by decide +kernel
theorem dX11_dig_20 : decode cX11_dig 20 = .ok (.aload_n 0, 1) := by decide +kernel
theorem dX11_dig_21 : decode cX11_dig 21 = .ok (.getfield 50, 3) := by decide +kernel
theorem dX11_dig_24 : decode cX11_dig 24 = .ok (.aload_n 0, 1) := by decide +kernel
theorem dX11_dig_25 : decode cX11_dig 25 = .ok (.getfield 43, 3) := by decide +kernel
theorem dX11_dig_28 : decode cX11_dig 28 = .ok (.getfield 102, 3) := by decide +kernel
theorem dX11_dig_31 : decode cX11_dig 31 = .ok (.invokevirtual 211, 3) := by decide +kernel
theorem dX11_dig_34 : decode cX11_dig 34 = .ok (.aload_n 0, 1) := by decide +kernel
theorem dX11_dig_35 : decode cX11_dig 35 = .ok (.getfield 43, 3) := by decide +kernel
theorem dX11_dig_38 : decode cX11_dig 38 = .ok (.getfield 102, 3) := by decide +kernel
theorem dX11_dig_41 : decode cX11_dig 41 = .ok (.iload_n 1, 1) := by decide +kernel
theorem dX11_dig_42 : decode cX11_dig 42 = .ok (.iload_n 2, 1) := by decide +kernel
theorem dX11_dig_43 : decode cX11_dig 43 = .ok (.invokevirtual 237, 3) := by decide +kernel
theorem dX11_dig_46 : decode cX11_dig 46 = .ok (.aload_n 0, 1) := by decide +kernel
theorem dX11_dig_47 : decode cX11_dig 47 = .ok (.getfield 43, 3) := by decide +kernel
theorem dX11_dig_50 : decode cX11_dig 50 = .ok (.getfield 102, 3) := by decide +kernel
theorem dX11_dig_53 : decode cX11_dig 53 = .ok (.getfield 148, 3) := by decide +kernel
theorem dX11_dig_56 : decode cX11_dig 56 = .ok (.iload_n 1, 1) := by decide +kernel
theorem dX11_dig_57 : decode cX11_dig 57 = .ok (.iaload, 1) := by decide +kernel
theorem dX11_dig_58 : decode cX11_dig 58 = .ok (.ireturn, 1) := by decide +kernel
def x_dig (N : Nat) (a1 a2 : Int) (M : jMem) : Option (Int × jMem) := (x_isWell N a1 M).bind fun r1 => (if r1 = 0 then some ((-1), M) else (x_isWithin N a2 1 9 M).bind fun r2 => (if r2 = 0 then some ((-1), M) else jbv (Ac_keep N 21 M) fun M3 => jbv (St_addDepth N 21 a1 a2 M3) fun M4 => jchk (0 ≤ a1 ∧ a1 < 7) <| some ((M4 22 a1), M4)))
theorem c_x_dig {l : Launch} {g : jG} (N : Nat) (a1 a2 : Int) (M : jMem)  : ∀ o, x_dig N a1 a2 M = some o → jCt l g jTX yX11_dig cX11_dig 3 (some .int) 0 6 [(2, 0), (0, a1), (0, a2)] M o := by
  refine jMet (own := RX11) (em := id) (L := [(0, 2, 0), (1, 0, a1), (2, 0, a2)]) (by decide +kernel) rfl (Nat.le_of_ble_eq_true rfl) rfl (fun K hR => ?_)
  unfold x_dig
  refine z_aload_n (pc := 0) hR 0 dX11_dig_0 rfl rfl ?_
  refine z_iload_n (pc := 1) hR 1 dX11_dig_1 rfl rfl ?_
  refine z_callvp (pc := 2) hR (As := [(0, a1)]) (st := []) jm_X11_isWell jl_RX11_144 kxo_0 (by decide) rfl (by decide) (c_x_isWell N a1 M) rfl (by decide) (by decide) rfl (Nat.le_of_ble_eq_true rfl) dX11_dig_2 (fun r1 => ?_)
  refine z_ifeq (pc := 5) (tgt := 18) hR dX11_dig_5 (by decide) ?_ ?_
  · refine z_iconst (pc := 18) hR dX11_dig_18 rfl ?_
    exact z_ireturn (pc := 19) hR rfl rfl dX11_dig_19 rfl
  · refine z_iload_n (pc := 8) hR 2 dX11_dig_8 rfl rfl ?_
    refine z_iconst (pc := 9) hR dX11_dig_9 rfl ?_
    refine z_bipush (pc := 10) hR dX11_dig_10 rfl ?_
    refine z_callsp (pc := 12) hR (As := [(0, a2), (0, 1), (0, 9)]) (st := []) jm_X11_isWithin jl_RX11_137 (by decide) (c_x_isWithin N a2 1 9 M) rfl (by decide) (by decide) rfl (Nat.le_of_ble_eq_true rfl) dX11_dig_12 (fun r2 => ?_)
    refine z_ifne (pc := 15) (tgt := 20) hR dX11_dig_15 (by decide) ?_ ?_
    · refine z_aload_n (pc := 20) hR 0 dX11_dig_20 rfl rfl ?_
      refine z_getr (pc := 21) hR (c0 := 31) (r := 31) jf_RX11_50 kxo_0 (by decide) rfl rfl dX11_dig_21 ?_
      refine z_aload_n (pc := 24) hR 0 dX11_dig_24 rfl rfl ?_
      refine z_getr (pc := 25) hR (c0 := 14) (r := 14) jf_RX11_43 kxo_0 (by decide) rfl rfl dX11_dig_25 ?_
      refine z_getr (pc := 28) hR (c0 := 7) (r := 21) jf_RX11_102 kxo_14 (by decide) rfl rfl dX11_dig_28 ?_
      refine z_callv0 (pc := 31) (rk' := 3) hR (As := [(2, 21)]) (st := []) jm_X0_keep jl_RX11_211 kxo_31 (by decide) rfl (c_Ac_keep N 21 M kxo_21) rfl (by decide) (by decide) rfl (Nat.le_of_ble_eq_true rfl) dX11_dig_31 (fun M3 => ?_)
      refine z_aload_n (pc := 34) hR 0 dX11_dig_34 rfl rfl ?_
      refine z_getr (pc := 35) hR (c0 := 14) (r := 14) jf_RX11_43 kxo_0 (by decide) rfl rfl dX11_dig_35 ?_
      refine z_getr (pc := 38) hR (c0 := 7) (r := 21) jf_RX11_102 kxo_14 (by decide) rfl rfl dX11_dig_38 ?_
      refine z_iload_n (pc := 41) hR 1 dX11_dig_41 rfl rfl ?_
      refine z_iload_n (pc := 42) hR 2 dX11_dig_42 rfl rfl ?_
      refine z_callv0 (pc := 43) (rk' := 3) hR (As := [(0, a1), (0, a2)]) (st := []) jm_X7_addDepth jl_RX11_237 kxo_21 (by decide) rfl (c_St_addDepth N 21 a1 a2 M3 kxo_21) rfl (by decide) (by decide) rfl (Nat.le_of_ble_eq_true rfl) dX11_dig_43 (fun M4 => ?_)
      refine z_aload_n (pc := 46) hR 0 dX11_dig_46 rfl rfl ?_
      refine z_getr (pc := 47) hR (c0 := 14) (r := 14) jf_RX11_43 kxo_0 (by decide) rfl rfl dX11_dig_47 ?_
      refine z_getr (pc := 50) hR (c0 := 7) (r := 21) jf_RX11_102 kxo_14 (by decide) rfl rfl dX11_dig_50 ?_
      refine z_getr (pc := 53) hR (c0 := 1) (r := 22) jf_RX11_148 kxo_21 (by decide) rfl rfl dX11_dig_53 ?_
      refine z_iload_n (pc := 56) hR 1 dX11_dig_56 rfl rfl ?_
      refine z_chk (fun hc5 => ?_)
      refine z_iald (pc := 57) hR (n := 7) kxa_22 hc5.1 hc5.2 dX11_dig_57 ?_
      exact z_ireturn (pc := 58) hR rfl rfl dX11_dig_58 rfl
    · refine z_iconst (pc := 18) hR dX11_dig_18 rfl ?_
      exact z_ireturn (pc := 19) hR rfl rfl dX11_dig_19 rfl
theorem dX11_birth_0 : decode cX11_birth 0 = .ok (.aload_n 0, 1) := by decide +kernel
theorem dX11_birth_1 : decode cX11_birth 1 = .ok (.iload_n 1, 1) := by decide +kernel
theorem dX11_birth_2 : decode cX11_birth 2 = .ok (.invokevirtual 162, 3) := by decide +kernel
theorem dX11_birth_5 : decode cX11_birth 5 = .ok (.ifCond .eq 20, 3) := by decide +kernel
theorem dX11_birth_8 : decode cX11_birth 8 = .ok (.aload_n 0, 1) := by decide +kernel
theorem dX11_birth_9 : decode cX11_birth 9 = .ok (.getfield 43, 3) := by decide +kernel
theorem dX11_birth_12 : decode cX11_birth 12 = .ok (.getfield 102, 3) := by decide +kernel
theorem dX11_birth_15 : decode cX11_birth 15 = .ok (.getfield 168, 3) := by decide +kernel
theorem dX11_birth_18 : decode cX11_birth 18 = .ok (.iload_n 1, 1) := by decide +kernel
theorem dX11_birth_19 : decode cX11_birth 19 = .ok (.iaload, 1) := by decide +kernel
theorem dX11_birth_20 : decode cX11_birth 20 = .ok (.bipush 9, 2) := by decide +kernel
theorem dX11_birth_22 : decode cX11_birth 22 = .ok (.if_icmp .lt 5, 3) := by decide +kernel
theorem dX11_birth_25 : decode cX11_birth 25 = .ok (.iconst (-1), 1) := by decide +kernel
theorem dX11_birth_26 : decode cX11_birth 26 = .ok (.ireturn, 1) := by decide +kernel
theorem dX11_birth_27 : decode cX11_birth 27 = .ok (.aload_n 0, 1) := by decide +kernel
theorem dX11_birth_28 : decode cX11_birth 28 = .ok (.getfield 50, 3) := by decide +kernel
theorem dX11_birth_31 : decode cX11_birth 31 = .ok (.aload_n 0, 1) := by decide +kernel
theorem dX11_birth_32 : decode cX11_birth 32 = .ok (.getfield 43, 3) := by decide +kernel
theorem dX11_birth_35 : decode cX11_birth 35 = .ok (.getfield 102, 3) := by decide +kernel
theorem dX11_birth_38 : decode cX11_birth 38 = .ok (.invokevirtual 211, 3) := by decide +kernel
theorem dX11_birth_41 : decode cX11_birth 41 = .ok (.aload_n 0, 1) := by decide +kernel
theorem dX11_birth_42 : decode cX11_birth 42 = .ok (.getfield 43, 3) := by decide +kernel
theorem dX11_birth_45 : decode cX11_birth 45 = .ok (.getfield 102, 3) := by decide +kernel
theorem dX11_birth_48 : decode cX11_birth 48 = .ok (.iload_n 1, 1) := by decide +kernel
theorem dX11_birth_49 : decode cX11_birth 49 = .ok (.invokevirtual 240, 3) := by decide +kernel
theorem dX11_birth_52 : decode cX11_birth 52 = .ok (.aload_n 0, 1) := by decide +kernel
theorem dX11_birth_53 : decode cX11_birth 53 = .ok (.getfield 43, 3) := by decide +kernel
theorem dX11_birth_56 : decode cX11_birth 56 = .ok (.getfield 102, 3) := by decide +kernel
theorem dX11_birth_59 : decode cX11_birth 59 = .ok (.getfield 168, 3) := by decide +kernel
theorem dX11_birth_62 : decode cX11_birth 62 = .ok (.iload_n 1, 1) := by decide +kernel
theorem dX11_birth_63 : decode cX11_birth 63 = .ok (.iaload, 1) := by decide +kernel
theorem dX11_birth_64 : decode cX11_birth 64 = .ok (.ireturn, 1) := by decide +kernel
def x_birth (N : Nat) (a1 : Int) (M : jMem) : Option (Int × jMem) := (x_isFarm N a1 M).bind fun r1 => (if r1 = 0 then some ((-1), M) else jchk (0 ≤ a1 ∧ a1 < 7) <| (if (M 26 a1) < 9 then jbv (Ac_keep N 21 M) fun M3 => jbv (St_addHeir N 21 a1 M3) fun M4 => jchk (0 ≤ a1 ∧ a1 < 7) <| some ((M4 26 a1), M4) else some ((-1), M)))
theorem c_x_birth {l : Launch} {g : jG} (N : Nat) (a1 : Int) (M : jMem)  : ∀ o, x_birth N a1 M = some o → jCt l g jTX yX11_birth cX11_birth 2 (some .int) 0 6 [(2, 0), (0, a1)] M o := by
  refine jMet (own := RX11) (em := id) (L := [(0, 2, 0), (1, 0, a1)]) (by decide +kernel) rfl (Nat.le_of_ble_eq_true rfl) rfl (fun K hR => ?_)
  unfold x_birth
  refine z_aload_n (pc := 0) hR 0 dX11_birth_0 rfl rfl ?_
  refine z_iload_n (pc := 1) hR 1 dX11_birth_1 rfl rfl ?_
  refine z_callvp (pc := 2) hR (As := [(0, a1)]) (st := []) jm_X11_isFarm jl_RX11_162 kxo_0 (by decide) rfl (by decide) (c_x_isFarm N a1 M) rfl (by decide) (by decide) rfl (Nat.le_of_ble_eq_true rfl) dX11_birth_2 (fun r1 => ?_)
  refine z_ifeq (pc := 5) (tgt := 25) hR dX11_birth_5 (by decide) ?_ ?_
  · refine z_iconst (pc := 25) hR dX11_birth_25 rfl ?_
    exact z_ireturn (pc := 26) hR rfl rfl dX11_birth_26 rfl
  · refine z_aload_n (pc := 8) hR 0 dX11_birth_8 rfl rfl ?_
    refine z_getr (pc := 9) hR (c0 := 14) (r := 14) jf_RX11_43 kxo_0 (by decide) rfl rfl dX11_birth_9 ?_
    refine z_getr (pc := 12) hR (c0 := 7) (r := 21) jf_RX11_102 kxo_14 (by decide) rfl rfl dX11_birth_12 ?_
    refine z_getr (pc := 15) hR (c0 := 5) (r := 26) jf_RX11_168 kxo_21 (by decide) rfl rfl dX11_birth_15 ?_
    refine z_iload_n (pc := 18) hR 1 dX11_birth_18 rfl rfl ?_
    refine z_chk (fun hc2 => ?_)
    refine z_iald (pc := 19) hR (n := 7) kxa_26 hc2.1 hc2.2 dX11_birth_19 ?_
    refine z_bipush (pc := 20) hR dX11_birth_20 rfl ?_
    refine z_icmplt (pc := 22) (tgt := 27) hR dX11_birth_22 (by decide) ?_ ?_
    · refine z_aload_n (pc := 27) hR 0 dX11_birth_27 rfl rfl ?_
      refine z_getr (pc := 28) hR (c0 := 31) (r := 31) jf_RX11_50 kxo_0 (by decide) rfl rfl dX11_birth_28 ?_
      refine z_aload_n (pc := 31) hR 0 dX11_birth_31 rfl rfl ?_
      refine z_getr (pc := 32) hR (c0 := 14) (r := 14) jf_RX11_43 kxo_0 (by decide) rfl rfl dX11_birth_32 ?_
      refine z_getr (pc := 35) hR (c0 := 7) (r := 21) jf_RX11_102 kxo_14 (by decide) rfl rfl dX11_birth_35 ?_
      refine z_callv0 (pc := 38) (rk' := 3) hR (As := [(2, 21)]) (st := []) jm_X0_keep jl_RX11_211 kxo_31 (by decide) rfl (c_Ac_keep N 21 M kxo_21) rfl (by decide) (by decide) rfl (Nat.le_of_ble_eq_true rfl) dX11_birth_38 (fun M3 => ?_)
      refine z_aload_n (pc := 41) hR 0 dX11_birth_41 rfl rfl ?_
      refine z_getr (pc := 42) hR (c0 := 14) (r := 14) jf_RX11_43 kxo_0 (by decide) rfl rfl dX11_birth_42 ?_
      refine z_getr (pc := 45) hR (c0 := 7) (r := 21) jf_RX11_102 kxo_14 (by decide) rfl rfl dX11_birth_45 ?_
      refine z_iload_n (pc := 48) hR 1 dX11_birth_48 rfl rfl ?_
      refine z_callv0 (pc := 49) (rk' := 3) hR (As := [(0, a1)]) (st := []) jm_X7_addHeir jl_RX11_240 kxo_21 (by decide) rfl (c_St_addHeir N 21 a1 M3 kxo_21) rfl (by decide) (by decide) rfl (Nat.le_of_ble_eq_true rfl) dX11_birth_49 (fun M4 => ?_)
      refine z_aload_n (pc := 52) hR 0 dX11_birth_52 rfl rfl ?_
      refine z_getr (pc := 53) hR (c0 := 14) (r := 14) jf_RX11_43 kxo_0 (by decide) rfl rfl dX11_birth_53 ?_
      refine z_getr (pc := 56) hR (c0 := 7) (r := 21) jf_RX11_102 kxo_14 (by decide) rfl rfl dX11_birth_56 ?_
      refine z_getr (pc := 59) hR (c0 := 5) (r := 26) jf_RX11_168 kxo_21 (by decide) rfl rfl dX11_birth_59 ?_
      refine z_iload_n (pc := 62) hR 1 dX11_birth_62 rfl rfl ?_
      refine z_chk (fun hc5 => ?_)
      refine z_iald (pc := 63) hR (n := 7) kxa_26 hc5.1 hc5.2 dX11_birth_63 ?_
      exact z_ireturn (pc := 64) hR rfl rfl dX11_birth_64 rfl
    · refine z_iconst (pc := 25) hR dX11_birth_25 rfl ?_
      exact z_ireturn (pc := 26) hR rfl rfl dX11_birth_26 rfl
theorem dX0_takeBack_0 : decode cX0_takeBack 0 = .ok (.aload_n 0, 1) := by decide +kernel
theorem dX0_takeBack_1 : decode cX0_takeBack 1 = .ok (.aload_n 0, 1) := by decide +kernel
theorem dX0_takeBack_2 : decode cX0_takeBack 2 = .ok (.getfield 22, 3) := by decide +kernel
theorem dX0_takeBack_5 : decode cX0_takeBack 5 = .ok (.bipush 20, 2) := by decide +kernel
theorem dX0_takeBack_7 : decode cX0_takeBack 7 = .ok (.iadd, 1) := by decide +kernel
theorem dX0_takeBack_8 : decode cX0_takeBack 8 = .ok (.iconst 1, 1) := by decide +kernel
theorem dX0_takeBack_9 : decode cX0_takeBack 9 = .ok (.isub, 1) := by decide +kernel
theorem dX0_takeBack_10 : decode cX0_takeBack 10 = .ok (.bipush 20, 2) := by decide +kernel
theorem dX0_takeBack_12 : decode cX0_takeBack 12 = .ok (.irem, 1) := by decide +kernel
theorem dX0_takeBack_13 : decode cX0_takeBack 13 = .ok (.putfield 22, 3) := by decide +kernel
theorem dX0_takeBack_16 : decode cX0_takeBack 16 = .ok (.aload_n 1, 1) := by decide +kernel
theorem dX0_takeBack_17 : decode cX0_takeBack 17 = .ok (.aload_n 0, 1) := by decide +kernel
theorem dX0_takeBack_18 : decode cX0_takeBack 18 = .ok (.getfield 11, 3) := by decide +kernel
theorem dX0_takeBack_21 : decode cX0_takeBack 21 = .ok (.aload_n 0, 1) := by decide +kernel
theorem dX0_takeBack_22 : decode cX0_takeBack 22 = .ok (.getfield 22, 3) := by decide +kernel
theorem dX0_takeBack_25 : decode cX0_takeBack 25 = .ok (.aaload, 1) := by decide +kernel
theorem dX0_takeBack_26 : decode cX0_takeBack 26 = .ok (.invokevirtual 25, 3) := by decide +kernel
theorem dX0_takeBack_29 : decode cX0_takeBack 29 = .ok (.aload_n 0, 1) := by decide +kernel
theorem dX0_takeBack_30 : decode cX0_takeBack 30 = .ok (.dup, 1) := by decide +kernel
theorem dX0_takeBack_31 : decode cX0_takeBack 31 = .ok (.getfield 18, 3) := by decide +kernel
theorem dX0_takeBack_34 : decode cX0_takeBack 34 = .ok (.iconst 1, 1) := by decide +kernel
theorem dX0_takeBack_35 : decode cX0_takeBack 35 = .ok (.isub, 1) := by decide +kernel
theorem dX0_takeBack_36 : decode cX0_takeBack 36 = .ok (.putfield 18, 3) := by decide +kernel
theorem dX0_takeBack_39 : decode cX0_takeBack 39 = .ok (.return_, 1) := by decide +kernel
def Ac_takeBack (N : Nat) (a1 : Int) (M : jMem) : Option (Int × jMem) := jlt (up M 31 1 ((((w32 (((w32 (((M 31 1)) + 20))) - 1))).tmod 20))) fun M1 => jchk (0 ≤ (M1 31 1) ∧ (M1 31 1) < 20) <| jbv (St_copyFrom N a1 ((32 + 1 + 6 * ((M1 31 1)))) M1) fun M3 => jlt (up M3 31 2 ((w32 (((M3 31 2)) - 1)))) fun M4 => some (0, M4)
theorem c_Ac_takeBack {l : Launch} {g : jG} (N : Nat) (a1 : Int) (M : jMem) (ha1 : jk jTX a1 7) : ∀ o, Ac_takeBack N a1 M = some o → jCt l g jTX yX0_takeBack cX0_takeBack 2 none 3 4 [(2, 31), (2, a1)] M o := by
  refine jMet (own := RX0) (em := id) (L := [(0, 2, 31), (1, 2, a1)]) (by decide +kernel) rfl (Nat.le_of_ble_eq_true rfl) rfl (fun K hR => ?_)
  unfold Ac_takeBack
  refine z_aload_n (pc := 0) hR 0 dX0_takeBack_0 rfl rfl ?_
  refine z_aload_n (pc := 1) hR 0 dX0_takeBack_1 rfl rfl ?_
  refine z_geti (pc := 2) hR (j := 1) jf_RX0_22 kxo_31 (by decide) rfl rfl dX0_takeBack_2 ?_
  refine z_bipush (pc := 5) hR dX0_takeBack_5 rfl ?_
  refine z_iadd (pc := 7) hR dX0_takeBack_7 ?_
  refine z_iconst (pc := 8) hR dX0_takeBack_8 rfl ?_
  refine z_isub (pc := 9) hR dX0_takeBack_9 ?_
  refine z_bipush (pc := 10) hR dX0_takeBack_10 rfl ?_
  refine z_irem (pc := 12) hR dX0_takeBack_12 (by decide) ?_
  refine z_puti (pc := 13) hR (j := 1) jp_RX0_22 kxo_31 (by decide) rfl rfl rfl rfl dX0_takeBack_13 (fun M1 => ?_)
  refine z_aload_n (pc := 16) hR 1 dX0_takeBack_16 rfl rfl ?_
  refine z_aload_n (pc := 17) hR 0 dX0_takeBack_17 rfl rfl ?_
  refine z_getr (pc := 18) hR (c0 := 1) (r := 32) jf_RX0_11 kxo_31 (by decide) rfl rfl dX0_takeBack_18 ?_
  refine z_aload_n (pc := 21) hR 0 dX0_takeBack_21 rfl rfl ?_
  refine z_geti (pc := 22) hR (j := 1) jf_RX0_22 kxo_31 (by decide) rfl rfl dX0_takeBack_22 ?_
  refine z_chk (fun hc2 => ?_)
  refine z_aald7 (pc := 25) hR (n := 20) kxa_32 hc2.1 hc2.2 dX0_takeBack_25 ?_
  refine z_callv0 (pc := 26) (rk' := 3) hR (As := [(2, (32 + 1 + 6 * ((M1 31 1))))]) (st := []) jm_X7_copyFrom jl_RX0_25 ha1 (by decide) rfl (c_St_copyFrom N a1 ((32 + 1 + 6 * ((M1 31 1)))) M1 ha1 (ke_7 kxa_32 hc2.1 hc2.2)) rfl (by decide) (by decide) rfl (Nat.le_of_ble_eq_true rfl) dX0_takeBack_26 (fun M3 => ?_)
  refine z_aload_n (pc := 29) hR 0 dX0_takeBack_29 rfl rfl ?_
  refine z_dup (pc := 30) hR dX0_takeBack_30 (by decide) ?_
  refine z_geti (pc := 31) hR (j := 2) jf_RX0_18 kxo_31 (by decide) rfl rfl dX0_takeBack_31 ?_
  refine z_iconst (pc := 34) hR dX0_takeBack_34 rfl ?_
  refine z_isub (pc := 35) hR dX0_takeBack_35 ?_
  refine z_puti (pc := 36) hR (j := 2) jp_RX0_18 kxo_31 (by decide) rfl rfl rfl rfl dX0_takeBack_36 (fun M4 => ?_)
  exact z_return (x := 0) (pc := 39) hR rfl rfl dX0_takeBack_39 rfl
theorem dX11_undo_0 : decode cX11_undo 0 = .ok (.aload_n 0, 1) := by decide +kernel
theorem dX11_undo_1 : decode cX11_undo 1 = .ok (.getfield 50, 3) := by decide +kernel
theorem dX11_undo_4 : decode cX11_undo 4 = .ok (.getfield 207, 3) := by decide +kernel
theorem dX11_undo_7 : decode cX11_undo 7 = .ok (.ifCond .ne 5, 3) := by decide +kernel
theorem dX11_undo_10 : decode cX11_undo 10 = .ok (.iconst (-1), 1) := by decide +kernel
theorem dX11_undo_11 : decode cX11_undo 11 = .ok (.ireturn, 1) := by decide +kernel
theorem dX11_undo_12 : decode cX11_undo 12 = .ok (.aload_n 0, 1) := by decide +kernel
theorem dX11_undo_13 : decode cX11_undo 13 = .ok (.getfield 50, 3) := by decide +kernel
theorem dX11_undo_16 : decode cX11_undo 16 = .ok (.aload_n 0, 1) := by decide +kernel
theorem dX11_undo_17 : decode cX11_undo 17 = .ok (.getfield 43, 3) := by decide +kernel
theorem dX11_undo_20 : decode cX11_undo 20 = .ok (.getfield 102, 3) := by decide +kernel
theorem dX11_undo_23 : decode cX11_undo 23 = .ok (.invokevirtual 243, 3) := by decide +kernel
theorem dX11_undo_26 : decode cX11_undo 26 = .ok (.aload_n 0, 1) := by decide +kernel
theorem dX11_undo_27 : decode cX11_undo 27 = .ok (.getfield 50, 3) := by decide +kernel
theorem dX11_undo_30 : decode cX11_undo 30 = .ok (.getfield 207, 3) := by decide +kernel
theorem dX11_undo_33 : decode cX11_undo 33 = .ok (.ireturn, 1) := by decide +kernel
def x_undo (N : Nat) (M : jMem) : Option (Int × jMem) := (if (M 31 2) = 0 then some ((-1), M) else jbv (Ac_takeBack N 21 M) fun M1 => some ((M1 31 2), M1))
theorem c_x_undo {l : Launch} {g : jG} (N : Nat) (M : jMem)  : ∀ o, x_undo N  M = some o → jCt l g jTX yX11_undo cX11_undo 1 (some .int) 0 6 [(2, 0)] M o := by
  refine jMet (own := RX11) (em := id) (L := [(0, 2, 0)]) (by decide +kernel) rfl (Nat.le_of_ble_eq_true rfl) rfl (fun K hR => ?_)
  unfold x_undo
  refine z_aload_n (pc := 0) hR 0 dX11_undo_0 rfl rfl ?_
  refine z_getr (pc := 1) hR (c0 := 31) (r := 31) jf_RX11_50 kxo_0 (by decide) rfl rfl dX11_undo_1 ?_
  refine z_geti (pc := 4) hR (j := 2) jf_RX11_207 kxo_31 (by decide) rfl rfl dX11_undo_4 ?_
  refine z_ifne (pc := 7) (tgt := 12) hR dX11_undo_7 (by decide) ?_ ?_
  · refine z_aload_n (pc := 12) hR 0 dX11_undo_12 rfl rfl ?_
    refine z_getr (pc := 13) hR (c0 := 31) (r := 31) jf_RX11_50 kxo_0 (by decide) rfl rfl dX11_undo_13 ?_
    refine z_aload_n (pc := 16) hR 0 dX11_undo_16 rfl rfl ?_
    refine z_getr (pc := 17) hR (c0 := 14) (r := 14) jf_RX11_43 kxo_0 (by decide) rfl rfl dX11_undo_17 ?_
    refine z_getr (pc := 20) hR (c0 := 7) (r := 21) jf_RX11_102 kxo_14 (by decide) rfl rfl dX11_undo_20 ?_
    refine z_callv0 (pc := 23) (rk' := 3) hR (As := [(2, 21)]) (st := []) jm_X0_takeBack jl_RX11_243 kxo_31 (by decide) rfl (c_Ac_takeBack N 21 M kxo_21) rfl (by decide) (by decide) rfl (Nat.le_of_ble_eq_true rfl) dX11_undo_23 (fun M1 => ?_)
    refine z_aload_n (pc := 26) hR 0 dX11_undo_26 rfl rfl ?_
    refine z_getr (pc := 27) hR (c0 := 31) (r := 31) jf_RX11_50 kxo_0 (by decide) rfl rfl dX11_undo_27 ?_
    refine z_geti (pc := 30) hR (j := 2) jf_RX11_207 kxo_31 (by decide) rfl rfl dX11_undo_30 ?_
    exact z_ireturn (pc := 33) hR rfl rfl dX11_undo_33 rfl
  · refine z_iconst (pc := 10) hR dX11_undo_10 rfl ?_
    exact z_ireturn (pc := 11) hR rfl rfl dX11_undo_11 rfl
theorem dX2_bitsOf_0 : decode cX2_bitsOf 0 = .ok (.aload_n 0, 1) := by decide +kernel
theorem dX2_bitsOf_1 : decode cX2_bitsOf 1 = .ok (.getfield 29, 3) := by decide +kernel
theorem dX2_bitsOf_4 : decode cX2_bitsOf 4 = .ok (.istore_n 1, 1) := by decide +kernel
theorem dX2_bitsOf_5 : decode cX2_bitsOf 5 = .ok (.iconst 0, 1) := by decide +kernel
theorem dX2_bitsOf_6 : decode cX2_bitsOf 6 = .ok (.istore_n 2, 1) := by decide +kernel
theorem dX2_bitsOf_7 : decode cX2_bitsOf 7 = .ok (.iload_n 2, 1) := by decide +kernel
theorem dX2_bitsOf_8 : decode cX2_bitsOf 8 = .ok (.aload_n 0, 1) := by decide +kernel
theorem dX2_bitsOf_9 : decode cX2_bitsOf 9 = .ok (.getfield 29, 3) := by decide +kernel
theorem dX2_bitsOf_12 : decode cX2_bitsOf 12 = .ok (.if_icmp .ge 46, 3) := by decide +kernel
theorem dX2_bitsOf_15 : decode cX2_bitsOf 15 = .ok (.iload_n 2, 1) := by decide +kernel
theorem dX2_bitsOf_16 : decode cX2_bitsOf 16 = .ok (.iconst 1, 1) := by decide +kernel
theorem dX2_bitsOf_17 : decode cX2_bitsOf 17 = .ok (.iadd, 1) := by decide +kernel
theorem dX2_bitsOf_18 : decode cX2_bitsOf 18 = .ok (.istore_n 3, 1) := by decide +kernel
theorem dX2_bitsOf_19 : decode cX2_bitsOf 19 = .ok (.iload_n 3, 1) := by decide +kernel
theorem dX2_bitsOf_20 : decode cX2_bitsOf 20 = .ok (.aload_n 0, 1) := by decide +kernel
theorem dX2_bitsOf_21 : decode cX2_bitsOf 21 = .ok (.getfield 29, 3) := by decide +kernel
theorem dX2_bitsOf_24 : decode cX2_bitsOf 24 = .ok (.if_icmp .ge 28, 3) := by decide +kernel
theorem dX2_bitsOf_27 : decode cX2_bitsOf 27 = .ok (.iload_n 1, 1) := by decide +kernel
theorem dX2_bitsOf_28 : decode cX2_bitsOf 28 = .ok (.iconst 2, 1) := by decide +kernel
theorem dX2_bitsOf_29 : decode cX2_bitsOf 29 = .ok (.imul, 1) := by decide +kernel
theorem dX2_bitsOf_30 : decode cX2_bitsOf 30 = .ok (.aload_n 0, 1) := by decide +kernel
theorem dX2_bitsOf_31 : decode cX2_bitsOf 31 = .ok (.iload_n 2, 1) := by decide +kernel
theorem dX2_bitsOf_32 : decode cX2_bitsOf 32 = .ok (.iload_n 3, 1) := by decide +kernel
theorem dX2_bitsOf_33 : decode cX2_bitsOf 33 = .ok (.invokevirtual 35, 3) := by decide +kernel
theorem dX2_bitsOf_36 : decode cX2_bitsOf 36 = .ok (.ifCond .eq 7, 3) := by decide +kernel
theorem dX2_bitsOf_39 : decode cX2_bitsOf 39 = .ok (.iconst 1, 1) := by decide +kernel
theorem dX2_bitsOf_40 : decode cX2_bitsOf 40 = .ok (.goto 4, 3) := by decide +kernel
theorem dX2_bitsOf_43 : decode cX2_bitsOf 43 = .ok (.iconst 0, 1) := by decide +kernel
theorem dX2_bitsOf_44 : decode cX2_bitsOf 44 = .ok (.iadd, 1) := by decide +kernel
theorem dX2_bitsOf_45 : decode cX2_bitsOf 45 = .ok (.istore_n 1, 1) := by decide +kernel
theorem dX2_bitsOf_46 : decode cX2_bitsOf 46 = .ok (.iinc 3 1, 3) := by decide +kernel
theorem dX2_bitsOf_49 : decode cX2_bitsOf 49 = .ok (.goto (-30), 3) := by decide +kernel
theorem dX2_bitsOf_52 : decode cX2_bitsOf 52 = .ok (.iinc 2 1, 3) := by decide +kernel
theorem dX2_bitsOf_55 : decode cX2_bitsOf 55 = .ok (.goto (-48), 3) := by decide +kernel
theorem dX2_bitsOf_58 : decode cX2_bitsOf 58 = .ok (.iload_n 1, 1) := by decide +kernel
theorem dX2_bitsOf_59 : decode cX2_bitsOf 59 = .ok (.ireturn, 1) := by decide +kernel
def Li_bitsOf_L19 (N : Nat) (M : jMem) (x3 : Int) (h7 : (Int × Int) → Option Int) (h19 : (Int × Int) → Option Int) : Int × Int → Option Int
  | (x5, x6) => (if x6 < (M 15 0) then (Pa_areKin N 15 x3 x6 M).bind fun r7 => (if r7 = 0 then jlt ((w32 (((w32 (x5 * 2))) + 0))) fun v8 => h19 (v8, (w32 (x6 + 1))) else jlt ((w32 (((w32 (x5 * 2))) + 1))) fun v9 => h19 (v9, (w32 (x6 + 1)))) else h7 (x5, (w32 (x3 + 1))))
def Li_bitsOf_L7 (N : Nat) (M : jMem) (h7 : (Int × Int) → Option Int) : Int × Int → Option Int
  | (x2, x3) => (if x3 < (M 15 0) then jlt ((w32 (x3 + 1))) fun v4 => jfix N (Li_bitsOf_L19 N M x3 h7) (x2, v4) else some x2)
def Li_bitsOf (N : Nat) (M : jMem) : Option Int := jlt ((M 15 0)) fun v1 => jfix N (Li_bitsOf_L7 N M) (v1, 0)
theorem c_Li_bitsOf {l : Launch} {g : jG} (N : Nat) (M : jMem)  : ∀ o, Li_bitsOf N  M = some o → jCt l g jTX yX2_bitsOf cX2_bitsOf 4 (some .int) 0 3 [(2, 15)] M (o, M) := by
  refine jMet (own := RX2) (em := (fun r => (r, M))) (L := [(0, 2, 15)]) (by decide +kernel) rfl (Nat.le_of_ble_eq_true rfl) rfl (fun K hR => ?_)
  unfold Li_bitsOf
  refine z_aload_n (pc := 0) hR 0 dX2_bitsOf_0 rfl rfl ?_
  refine z_geti (pc := 1) hR (j := 0) jf_RX2_29 kxo_15 (by decide) rfl rfl dX2_bitsOf_1 ?_
  refine z_let1 (fun v1 => ?_)
  refine z_istore_n (pc := 4) hR (lv' := [(1, 0, v1), (0, 2, 15)]) dX2_bitsOf_4 rfl (by decide) rfl ?_
  refine z_iconst (pc := 5) hR dX2_bitsOf_5 rfl ?_
  refine z_istore_n (pc := 6) hR (lv' := [(2, 0, 0), (1, 0, v1), (0, 2, 15)]) dX2_bitsOf_6 rfl (by decide) rfl ?_
  refine z_pick (pc := 7) (lv' := [(0, 2, 15), (1, 0, v1), (2, 0, 0)]) hR [2, 1, 0] rfl ?_
  refine z_fix (σ := Int × Int) (lv := fun s => [(0, 2, 15), (1, 0, s.1), (2, 0, s.2)]) (st := fun _ => []) (M := fun _ => M) (fun h7 hh7 => ?_) N (v1, 0)
  rintro ⟨x2, x3⟩
  show jZ K (fun r => (r, M)) 7 [(0, 2, 15), (1, 0, x2), (2, 0, x3)] [] M _
  unfold Li_bitsOf_L7
  refine z_iload_n (pc := 7) hR 2 dX2_bitsOf_7 rfl rfl ?_
  refine z_aload_n (pc := 8) hR 0 dX2_bitsOf_8 rfl rfl ?_
  refine z_geti (pc := 9) hR (j := 0) jf_RX2_29 kxo_15 (by decide) rfl rfl dX2_bitsOf_9 ?_
  refine z_icmpge (pc := 12) (tgt := 58) hR dX2_bitsOf_12 (by decide) ?_ ?_
  · refine z_iload_n (pc := 58) hR 1 dX2_bitsOf_58 rfl rfl ?_
    exact z_ireturn (pc := 59) hR rfl rfl dX2_bitsOf_59 rfl
  · refine z_iload_n (pc := 15) hR 2 dX2_bitsOf_15 rfl rfl ?_
    refine z_iconst (pc := 16) hR dX2_bitsOf_16 rfl ?_
    refine z_iadd (pc := 17) hR dX2_bitsOf_17 ?_
    refine z_let1 (fun v4 => ?_)
    refine z_istore_n (pc := 18) hR (lv' := [(3, 0, v4), (0, 2, 15), (1, 0, x2), (2, 0, x3)]) dX2_bitsOf_18 rfl (by decide) rfl ?_
    refine z_pick (pc := 19) (lv' := [(0, 2, 15), (1, 0, x2), (2, 0, x3), (3, 0, v4)]) hR [1, 2, 3, 0] rfl ?_
    refine z_fix (σ := Int × Int) (lv := fun s => [(0, 2, 15), (1, 0, s.1), (2, 0, x3), (3, 0, s.2)]) (st := fun _ => []) (M := fun _ => M) (fun h19 hh19 => ?_) N (x2, v4)
    rintro ⟨x5, x6⟩
    show jZ K (fun r => (r, M)) 19 [(0, 2, 15), (1, 0, x5), (2, 0, x3), (3, 0, x6)] [] M _
    unfold Li_bitsOf_L19
    refine z_iload_n (pc := 19) hR 3 dX2_bitsOf_19 rfl rfl ?_
    refine z_aload_n (pc := 20) hR 0 dX2_bitsOf_20 rfl rfl ?_
    refine z_geti (pc := 21) hR (j := 0) jf_RX2_29 kxo_15 (by decide) rfl rfl dX2_bitsOf_21 ?_
    refine z_icmpge (pc := 24) (tgt := 52) hR dX2_bitsOf_24 (by decide) ?_ ?_
    · refine z_iinc (pc := 52) hR (j := 2) (lv' := [(2, 0, (w32 (x3 + 1))), (0, 2, 15), (1, 0, x5), (3, 0, x6)]) dX2_bitsOf_52 rfl (by decide) rfl ?_
      refine z_goto (pc := 55) (tgt := 7) hR dX2_bitsOf_55 (by decide) ?_
      refine z_pick (pc := 7) (lv' := [(0, 2, 15), (1, 0, x5), (2, 0, (w32 (x3 + 1)))]) hR [1, 2, 0] rfl ?_
      exact hh7 (x5, (w32 (x3 + 1)))
    · refine z_iload_n (pc := 27) hR 1 dX2_bitsOf_27 rfl rfl ?_
      refine z_iconst (pc := 28) hR dX2_bitsOf_28 rfl ?_
      refine z_imul (pc := 29) hR dX2_bitsOf_29 ?_
      refine z_aload_n (pc := 30) hR 0 dX2_bitsOf_30 rfl rfl ?_
      refine z_iload_n (pc := 31) hR 2 dX2_bitsOf_31 rfl rfl ?_
      refine z_iload_n (pc := 32) hR 3 dX2_bitsOf_32 rfl rfl ?_
      refine z_callvp (pc := 33) hR (As := [(0, x3), (0, x6)]) (st := [(0, (w32 (x5 * 2)))]) jm_X4_areKin jl_RX2_35 kxo_15 (by decide) rfl (by decide) (c_Pa_areKin N 15 x3 x6 M kxo_15) rfl (by decide) (by decide) rfl (Nat.le_of_ble_eq_true rfl) dX2_bitsOf_33 (fun r7 => ?_)
      refine z_ifeq (pc := 36) (tgt := 43) hR dX2_bitsOf_36 (by decide) ?_ ?_
      · refine z_iconst (pc := 43) hR dX2_bitsOf_43 rfl ?_
        refine z_iadd (pc := 44) hR dX2_bitsOf_44 ?_
        refine z_let1 (fun v8 => ?_)
        refine z_istore_n (pc := 45) hR (lv' := [(1, 0, v8), (0, 2, 15), (2, 0, x3), (3, 0, x6)]) dX2_bitsOf_45 rfl (by decide) rfl ?_
        refine z_iinc (pc := 46) hR (j := 3) (lv' := [(3, 0, (w32 (x6 + 1))), (1, 0, v8), (0, 2, 15), (2, 0, x3)]) dX2_bitsOf_46 rfl (by decide) rfl ?_
        refine z_goto (pc := 49) (tgt := 19) hR dX2_bitsOf_49 (by decide) ?_
        refine z_pick (pc := 19) (lv' := [(0, 2, 15), (1, 0, v8), (2, 0, x3), (3, 0, (w32 (x6 + 1)))]) hR [2, 1, 3, 0] rfl ?_
        exact hh19 (v8, (w32 (x6 + 1)))
      · refine z_iconst (pc := 39) hR dX2_bitsOf_39 rfl ?_
        refine z_goto (pc := 40) (tgt := 44) hR dX2_bitsOf_40 (by decide) ?_
        refine z_iadd (pc := 44) hR dX2_bitsOf_44 ?_
        refine z_let1 (fun v9 => ?_)
        refine z_istore_n (pc := 45) hR (lv' := [(1, 0, v9), (0, 2, 15), (2, 0, x3), (3, 0, x6)]) dX2_bitsOf_45 rfl (by decide) rfl ?_
        refine z_iinc (pc := 46) hR (j := 3) (lv' := [(3, 0, (w32 (x6 + 1))), (1, 0, v9), (0, 2, 15), (2, 0, x3)]) dX2_bitsOf_46 rfl (by decide) rfl ?_
        refine z_goto (pc := 49) (tgt := 19) hR dX2_bitsOf_49 (by decide) ?_
        refine z_pick (pc := 19) (lv' := [(0, 2, 15), (1, 0, v9), (2, 0, x3), (3, 0, (w32 (x6 + 1)))]) hR [2, 1, 3, 0] rfl ?_
        exact hh19 (v9, (w32 (x6 + 1)))
theorem dX2_spread_0 : decode cX2_spread 0 = .ok (.iload_n 1, 1) := by decide +kernel
theorem dX2_spread_1 : decode cX2_spread 1 = .ok (.istore_n 2, 1) := by decide +kernel
theorem dX2_spread_2 : decode cX2_spread 2 = .ok (.aload_n 0, 1) := by decide +kernel
theorem dX2_spread_3 : decode cX2_spread 3 = .ok (.getfield 43, 3) := by decide +kernel
theorem dX2_spread_6 : decode cX2_spread 6 = .ok (.iconst 1, 1) := by decide +kernel
theorem dX2_spread_7 : decode cX2_spread 7 = .ok (.isub, 1) := by decide +kernel
theorem dX2_spread_8 : decode cX2_spread 8 = .ok (.istore_n 3, 1) := by decide +kernel
theorem dX2_spread_9 : decode cX2_spread 9 = .ok (.iload_n 3, 1) := by decide +kernel
theorem dX2_spread_10 : decode cX2_spread 10 = .ok (.ifCond .lt 32, 3) := by decide +kernel
theorem dX2_spread_13 : decode cX2_spread 13 = .ok (.aload_n 0, 1) := by decide +kernel
theorem dX2_spread_14 : decode cX2_spread 14 = .ok (.getfield 23, 3) := by decide +kernel
theorem dX2_spread_17 : decode cX2_spread 17 = .ok (.iload_n 3, 1) := by decide +kernel
theorem dX2_spread_18 : decode cX2_spread 18 = .ok (.iload_n 2, 1) := by decide +kernel
theorem dX2_spread_19 : decode cX2_spread 19 = .ok (.aload_n 0, 1) := by decide +kernel
theorem dX2_spread_20 : decode cX2_spread 20 = .ok (.getfield 43, 3) := by decide +kernel
theorem dX2_spread_23 : decode cX2_spread 23 = .ok (.iload_n 3, 1) := by decide +kernel
theorem dX2_spread_24 : decode cX2_spread 24 = .ok (.isub, 1) := by decide +kernel
theorem dX2_spread_25 : decode cX2_spread 25 = .ok (.irem, 1) := by decide +kernel
theorem dX2_spread_26 : decode cX2_spread 26 = .ok (.iastore, 1) := by decide +kernel
theorem dX2_spread_27 : decode cX2_spread 27 = .ok (.iload_n 2, 1) := by decide +kernel
theorem dX2_spread_28 : decode cX2_spread 28 = .ok (.aload_n 0, 1) := by decide +kernel
theorem dX2_spread_29 : decode cX2_spread 29 = .ok (.getfield 43, 3) := by decide +kernel
theorem dX2_spread_32 : decode cX2_spread 32 = .ok (.iload_n 3, 1) := by decide +kernel
theorem dX2_spread_33 : decode cX2_spread 33 = .ok (.isub, 1) := by decide +kernel
theorem dX2_spread_34 : decode cX2_spread 34 = .ok (.idiv, 1) := by decide +kernel
theorem dX2_spread_35 : decode cX2_spread 35 = .ok (.istore_n 2, 1) := by decide +kernel
theorem dX2_spread_36 : decode cX2_spread 36 = .ok (.iinc 3 (-1), 3) := by decide +kernel
theorem dX2_spread_39 : decode cX2_spread 39 = .ok (.goto (-30), 3) := by decide +kernel
theorem dX2_spread_42 : decode cX2_spread 42 = .ok (.iconst 0, 1) := by decide +kernel
theorem dX2_spread_43 : decode cX2_spread 43 = .ok (.istore_n 3, 1) := by decide +kernel
theorem dX2_spread_44 : decode cX2_spread 44 = .ok (.iconst 0, 1) := by decide +kernel
theorem dX2_spread_45 : decode cX2_spread 45 = .ok (.istore 4, 2) := by decide +kernel
theorem dX2_spread_47 : decode cX2_spread 47 = .ok (.iload 4, 2) := by decide +kernel
theorem dX2_spread_49 : decode cX2_spread 49 = .ok (.aload_n 0, 1) := by decide +kernel
theorem dX2_spread_50 : decode cX2_spread 50 = .ok (.getfield 43, 3) := by decide +kernel
theorem dX2_spread_53 : decode cX2_spread 53 = .ok (.if_icmp .ge 80, 3) := by decide +kernel
theorem dX2_spread_56 : decode cX2_spread 56 = .ok (.aload_n 0, 1) := by decide +kernel
theorem dX2_spread_57 : decode cX2_spread 57 = .ok (.getfield 23, 3) := by decide +kernel
theorem dX2_spread_60 : decode cX2_spread 60 = .ok (.iload 4, 2) := by decide +kernel
theorem dX2_spread_62 : decode cX2_spread 62 = .ok (.iaload, 1) := by decide +kernel
theorem dX2_spread_63 : decode cX2_spread 63 = .ok (.istore 5, 2) := by decide +kernel
theorem dX2_spread_65 : decode cX2_spread 65 = .ok (.iconst 0, 1) := by decide +kernel
theorem dX2_spread_66 : decode cX2_spread 66 = .ok (.istore 6, 2) := by decide +kernel
theorem dX2_spread_68 : decode cX2_spread 68 = .ok (.iload 6, 2) := by decide +kernel
theorem dX2_spread_70 : decode cX2_spread 70 = .ok (.aload_n 0, 1) := by decide +kernel
theorem dX2_spread_71 : decode cX2_spread 71 = .ok (.getfield 43, 3) := by decide +kernel
theorem dX2_spread_74 : decode cX2_spread 74 = .ok (.iconst 1, 1) := by decide +kernel
theorem dX2_spread_75 : decode cX2_spread 75 = .ok (.isub, 1) := by decide +kernel
theorem dX2_spread_76 : decode cX2_spread 76 = .ok (.if_icmp .ge 35, 3) := by decide +kernel
theorem dX2_spread_79 : decode cX2_spread 79 = .ok (.iload_n 3, 1) := by decide +kernel
theorem dX2_spread_80 : decode cX2_spread 80 = .ok (.iload 6, 2) := by decide +kernel
theorem dX2_spread_82 : decode cX2_spread 82 = .ok (.ishr, 1) := by decide +kernel
theorem dX2_spread_83 : decode cX2_spread 83 = .ok (.iconst 1, 1) := by decide +kernel
theorem dX2_spread_84 : decode cX2_spread 84 = .ok (.iand, 1) := by decide +kernel
theorem dX2_spread_85 : decode cX2_spread 85 = .ok (.ifCond .ne 8, 3) := by decide +kernel
theorem dX2_spread_88 : decode cX2_spread 88 = .ok (.iload 5, 2) := by decide +kernel
theorem dX2_spread_90 : decode cX2_spread 90 = .ok (.ifCond .le 21, 3) := by decide +kernel
theorem dX2_spread_93 : decode cX2_spread 93 = .ok (.iload_n 3, 1) := by decide +kernel
theorem dX2_spread_94 : decode cX2_spread 94 = .ok (.iload 6, 2) := by decide +kernel
theorem dX2_spread_96 : decode cX2_spread 96 = .ok (.ishr, 1) := by decide +kernel
theorem dX2_spread_97 : decode cX2_spread 97 = .ok (.iconst 1, 1) := by decide +kernel
theorem dX2_spread_98 : decode cX2_spread 98 = .ok (.iand, 1) := by decide +kernel
theorem dX2_spread_99 : decode cX2_spread 99 = .ok (.ifCond .ne 6, 3) := by decide +kernel
theorem dX2_spread_102 : decode cX2_spread 102 = .ok (.iinc 5 (-1), 3) := by decide +kernel
theorem dX2_spread_105 : decode cX2_spread 105 = .ok (.iinc 6 1, 3) := by decide +kernel
theorem dX2_spread_108 : decode cX2_spread 108 = .ok (.goto (-40), 3) := by decide +kernel
theorem dX2_spread_111 : decode cX2_spread 111 = .ok (.aload_n 0, 1) := by decide +kernel
theorem dX2_spread_112 : decode cX2_spread 112 = .ok (.getfield 19, 3) := by decide +kernel
theorem dX2_spread_115 : decode cX2_spread 115 = .ok (.iload 4, 2) := by decide +kernel
theorem dX2_spread_117 : decode cX2_spread 117 = .ok (.iload 6, 2) := by decide +kernel
theorem dX2_spread_119 : decode cX2_spread 119 = .ok (.iastore, 1) := by decide +kernel
theorem dX2_spread_120 : decode cX2_spread 120 = .ok (.iload_n 3, 1) := by decide +kernel
theorem dX2_spread_121 : decode cX2_spread 121 = .ok (.iconst 1, 1) := by decide +kernel
theorem dX2_spread_122 : decode cX2_spread 122 = .ok (.iload 6, 2) := by decide +kernel
theorem dX2_spread_124 : decode cX2_spread 124 = .ok (.ishl, 1) := by decide +kernel
theorem dX2_spread_125 : decode cX2_spread 125 = .ok (.ior, 1) := by decide +kernel
theorem dX2_spread_126 : decode cX2_spread 126 = .ok (.istore_n 3, 1) := by decide +kernel
theorem dX2_spread_127 : decode cX2_spread 127 = .ok (.iinc 4 1, 3) := by decide +kernel
theorem dX2_spread_130 : decode cX2_spread 130 = .ok (.goto (-83), 3) := by decide +kernel
theorem dX2_spread_133 : decode cX2_spread 133 = .ok (.return_, 1) := by decide +kernel
def Li_spread_L68 (N : Nat) (x5 : Int) (x6 : Int) (M7 : jMem) (h47 : (Int × Int × jMem) → Option (Int × jMem)) (h68 : (Int × Int) → Option (Int × jMem)) : Int × Int → Option (Int × jMem)
  | (x10, x11) => jlt (fun (_ : Unit) => jchk (0 ≤ x6 ∧ x6 < 7) <| jlt (up M7 174 x6 x11) fun M13 => jlt ((jor x5 ((jshl 1 x11)))) fun v14 => h47 (v14, (w32 (x6 + 1)), M13)) fun j111 => (if x11 < (w32 (((M7 171 7)) - 1)) then jlt (fun (_ : Unit) => (if (jand ((jshr x5 x11)) 1) = 0 then h68 ((w32 (x10 + (-1))), (w32 (x11 + 1))) else h68 (x10, (w32 (x11 + 1))))) fun j93 => (if (jand ((jshr x5 x11)) 1) = 0 then (if 0 < x10 then j93 () else j111 ()) else j93 ()) else j111 ())
def Li_spread_L47 (N : Nat)  (h47 : (Int × Int × jMem) → Option (Int × jMem)) : Int × Int × jMem → Option (Int × jMem)
  | (x5, x6, M7) => (if x6 < (M7 171 7) then jchk (0 ≤ x6 ∧ x6 < 7) <| jlt ((M7 175 x6)) fun v9 => jfix N (Li_spread_L68 N x5 x6 M7 h47) (v9, 0) else some (0, M7))
def Li_spread_L9 (N : Nat)  (h9 : (Int × Int × jMem) → Option (Int × jMem)) : Int × Int × jMem → Option (Int × jMem)
  | (x2, x3, M4) => (if x3 < 0 then jfix N (Li_spread_L47 N) (0, 0, M4) else jchk ((w32 (((M4 171 7)) - x3)) ≠ 0) <| jchk (0 ≤ x3 ∧ x3 < 7) <| jlt (up M4 175 x3 ((x2.tmod ((w32 (((M4 171 7)) - x3)))))) fun M17 => jchk ((w32 (((M17 171 7)) - x3)) ≠ 0) <| jlt ((w32 (x2.tdiv ((w32 (((M17 171 7)) - x3)))))) fun v19 => h9 (v19, (w32 (x3 + (-1))), M17))
def Li_spread (N : Nat) (a1 : Int) (M : jMem) : Option (Int × jMem) := jlt ((w32 (((M 171 7)) - 1))) fun v1 => jfix N (Li_spread_L9 N) (a1, v1, M)
theorem c_Li_spread {l : Launch} {g : jG} (N : Nat) (a1 : Int) (M : jMem)  : ∀ o, Li_spread N a1 M = some o → jCt l g jTX yX2_spread cX2_spread 7 none 3 1 [(2, 171), (0, a1)] M o := by
  refine jMet (own := RX2) (em := id) (L := [(0, 2, 171), (1, 0, a1)]) (by decide +kernel) rfl (Nat.le_of_ble_eq_true rfl) rfl (fun K hR => ?_)
  unfold Li_spread
  refine z_iload_n (pc := 0) hR 1 dX2_spread_0 rfl rfl ?_
  refine z_istore_n (pc := 1) hR (lv' := [(2, 0, a1), (0, 2, 171), (1, 0, a1)]) dX2_spread_1 rfl (by decide) rfl ?_
  refine z_aload_n (pc := 2) hR 1 dX2_spread_2 rfl rfl ?_
  refine z_geti (pc := 3) hR (j := 7) jf_RX2_43 kxo_171 (by decide) rfl rfl dX2_spread_3 ?_
  refine z_iconst (pc := 6) hR dX2_spread_6 rfl ?_
  refine z_isub (pc := 7) hR dX2_spread_7 ?_
  refine z_let1 (fun v1 => ?_)
  refine z_istore_n (pc := 8) hR (lv' := [(3, 0, v1), (2, 0, a1), (0, 2, 171), (1, 0, a1)]) dX2_spread_8 rfl (by decide) rfl ?_
  refine z_pick (pc := 9) (lv' := [(0, 2, 171), (2, 0, a1), (3, 0, v1)]) hR [2, 1, 0] rfl ?_
  refine z_fix (σ := Int × Int × jMem) (lv := fun s => [(0, 2, 171), (2, 0, s.1), (3, 0, s.2.1)]) (st := fun _ => []) (M := fun s => s.2.2) (fun h9 hh9 => ?_) N (a1, v1, M)
  rintro ⟨x2, x3, M4⟩
  show jZ K id 9 [(0, 2, 171), (2, 0, x2), (3, 0, x3)] [] M4 _
  unfold Li_spread_L9
  refine z_iload_n (pc := 9) hR 2 dX2_spread_9 rfl rfl ?_
  refine z_iflt (pc := 10) (tgt := 42) hR dX2_spread_10 (by decide) ?_ ?_
  · refine z_iconst (pc := 42) hR dX2_spread_42 rfl ?_
    refine z_istore_n (pc := 43) hR (lv' := [(3, 0, 0), (0, 2, 171), (2, 0, x2)]) dX2_spread_43 rfl (by decide) rfl ?_
    refine z_iconst (pc := 44) hR dX2_spread_44 rfl ?_
    refine z_istore (pc := 45) hR (lv' := [(4, 0, 0), (3, 0, 0), (0, 2, 171), (2, 0, x2)]) dX2_spread_45 (by decide) rfl ?_
    refine z_pick (pc := 47) (lv' := [(0, 2, 171), (3, 0, 0), (4, 0, 0)]) hR [2, 1, 0] rfl ?_
    refine z_fix (σ := Int × Int × jMem) (lv := fun s => [(0, 2, 171), (3, 0, s.1), (4, 0, s.2.1)]) (st := fun _ => []) (M := fun s => s.2.2) (fun h47 hh47 => ?_) N (0, 0, M4)
    rintro ⟨x5, x6, M7⟩
    show jZ K id 47 [(0, 2, 171), (3, 0, x5), (4, 0, x6)] [] M7 _
    unfold Li_spread_L47
    refine z_iload (pc := 47) hR 2 dX2_spread_47 rfl ?_
    refine z_aload_n (pc := 49) hR 0 dX2_spread_49 rfl rfl ?_
    refine z_geti (pc := 50) hR (j := 7) jf_RX2_43 kxo_171 (by decide) rfl rfl dX2_spread_50 ?_
    refine z_icmpge (pc := 53) (tgt := 133) hR dX2_spread_53 (by decide) ?_ ?_
    · exact z_return (x := 0) (pc := 133) hR rfl rfl dX2_spread_133 rfl
    · refine z_aload_n (pc := 56) hR 0 dX2_spread_56 rfl rfl ?_
      refine z_getr (pc := 57) hR (c0 := 4) (r := 175) jf_RX2_23 kxo_171 (by decide) rfl rfl dX2_spread_57 ?_
      refine z_iload (pc := 60) hR 2 dX2_spread_60 rfl ?_
      refine z_chk (fun hc8 => ?_)
      refine z_iald (pc := 62) hR (n := 7) kxa_175 hc8.1 hc8.2 dX2_spread_62 ?_
      refine z_let1 (fun v9 => ?_)
      refine z_istore (pc := 63) hR (lv' := [(5, 0, v9), (0, 2, 171), (3, 0, x5), (4, 0, x6)]) dX2_spread_63 (by decide) rfl ?_
      refine z_iconst (pc := 65) hR dX2_spread_65 rfl ?_
      refine z_istore (pc := 66) hR (lv' := [(6, 0, 0), (5, 0, v9), (0, 2, 171), (3, 0, x5), (4, 0, x6)]) dX2_spread_66 (by decide) rfl ?_
      refine z_pick (pc := 68) (lv' := [(0, 2, 171), (3, 0, x5), (4, 0, x6), (5, 0, v9), (6, 0, 0)]) hR [2, 3, 4, 1, 0] rfl ?_
      refine z_fix (σ := Int × Int) (lv := fun s => [(0, 2, 171), (3, 0, x5), (4, 0, x6), (5, 0, s.1), (6, 0, s.2)]) (st := fun _ => []) (M := fun _ => M7) (fun h68 hh68 => ?_) N (v9, 0)
      rintro ⟨x10, x11⟩
      show jZ K id 68 [(0, 2, 171), (3, 0, x5), (4, 0, x6), (5, 0, x10), (6, 0, x11)] [] M7 _
      unfold Li_spread_L68
      refine z_iload (pc := 68) hR 4 dX2_spread_68 rfl ?_
      refine z_aload_n (pc := 70) hR 0 dX2_spread_70 rfl rfl ?_
      refine z_geti (pc := 71) hR (j := 7) jf_RX2_43 kxo_171 (by decide) rfl rfl dX2_spread_71 ?_
      refine z_iconst (pc := 74) hR dX2_spread_74 rfl ?_
      refine z_isub (pc := 75) hR dX2_spread_75 ?_
      refine z_join (P := fun j => ∀ (_ : Unit), jZ K id 111 [(0, 2, 171), (3, 0, x5), (4, 0, x6), (6, 0, x11)] [] M7 (j ())) (fun _ => ?_) (fun j111 hj111 => ?_)
      · refine z_aload_n (pc := 111) hR 0 dX2_spread_111 rfl rfl ?_
        refine z_getr (pc := 112) hR (c0 := 3) (r := 174) jf_RX2_19 kxo_171 (by decide) rfl rfl dX2_spread_112 ?_
        refine z_iload (pc := 115) hR 2 dX2_spread_115 rfl ?_
        refine z_iload (pc := 117) hR 3 dX2_spread_117 rfl ?_
        refine z_chk (fun hc12 => ?_)
        refine z_iast (pc := 119) hR (n := 7) kxa_174 hc12.1 hc12.2 dX2_spread_119 (fun M13 => ?_)
        refine z_iload_n (pc := 120) hR 1 dX2_spread_120 rfl rfl ?_
        refine z_iconst (pc := 121) hR dX2_spread_121 rfl ?_
        refine z_iload (pc := 122) hR 3 dX2_spread_122 rfl ?_
        refine z_ishl (pc := 124) hR dX2_spread_124 ?_
        refine z_ior (pc := 125) hR dX2_spread_125 ?_
        refine z_let1 (fun v14 => ?_)
        refine z_istore_n (pc := 126) hR (lv' := [(3, 0, v14), (0, 2, 171), (4, 0, x6), (6, 0, x11)]) dX2_spread_126 rfl (by decide) rfl ?_
        refine z_iinc (pc := 127) hR (j := 2) (lv' := [(4, 0, (w32 (x6 + 1))), (3, 0, v14), (0, 2, 171), (6, 0, x11)]) dX2_spread_127 rfl (by decide) rfl ?_
        refine z_goto (pc := 130) (tgt := 47) hR dX2_spread_130 (by decide) ?_
        refine z_pick (pc := 47) (lv' := [(0, 2, 171), (3, 0, v14), (4, 0, (w32 (x6 + 1)))]) hR [2, 1, 0] rfl ?_
        exact hh47 (v14, (w32 (x6 + 1)), M13)
      refine z_icmpge (pc := 76) (tgt := 111) hR dX2_spread_76 (by decide) ?_ ?_
      · refine z_pick (pc := 111) (lv' := [(0, 2, 171), (3, 0, x5), (4, 0, x6), (6, 0, x11)]) hR [0, 1, 2, 4] rfl ?_
        exact hj111 ()
      · refine z_iload_n (pc := 79) hR 1 dX2_spread_79 rfl rfl ?_
        refine z_iload (pc := 80) hR 4 dX2_spread_80 rfl ?_
        refine z_ishr (pc := 82) hR dX2_spread_82 ?_
        refine z_iconst (pc := 83) hR dX2_spread_83 rfl ?_
        refine z_iand (pc := 84) hR dX2_spread_84 ?_
        refine z_join (P := fun j => ∀ (_ : Unit), jZ K id 93 [(0, 2, 171), (3, 0, x5), (4, 0, x6), (5, 0, x10), (6, 0, x11)] [] M7 (j ())) (fun _ => ?_) (fun j93 hj93 => ?_)
        · refine z_iload_n (pc := 93) hR 1 dX2_spread_93 rfl rfl ?_
          refine z_iload (pc := 94) hR 4 dX2_spread_94 rfl ?_
          refine z_ishr (pc := 96) hR dX2_spread_96 ?_
          refine z_iconst (pc := 97) hR dX2_spread_97 rfl ?_
          refine z_iand (pc := 98) hR dX2_spread_98 ?_
          refine z_ifne (pc := 99) (tgt := 105) hR dX2_spread_99 (by decide) ?_ ?_
          · refine z_iinc (pc := 105) hR (j := 4) (lv' := [(6, 0, (w32 (x11 + 1))), (0, 2, 171), (3, 0, x5), (4, 0, x6), (5, 0, x10)]) dX2_spread_105 rfl (by decide) rfl ?_
            refine z_goto (pc := 108) (tgt := 68) hR dX2_spread_108 (by decide) ?_
            refine z_pick (pc := 68) (lv' := [(0, 2, 171), (3, 0, x5), (4, 0, x6), (5, 0, x10), (6, 0, (w32 (x11 + 1)))]) hR [1, 2, 3, 4, 0] rfl ?_
            exact hh68 (x10, (w32 (x11 + 1)))
          · refine z_iinc (pc := 102) hR (j := 3) (lv' := [(5, 0, (w32 (x10 + (-1)))), (0, 2, 171), (3, 0, x5), (4, 0, x6), (6, 0, x11)]) dX2_spread_102 rfl (by decide) rfl ?_
            refine z_iinc (pc := 105) hR (j := 4) (lv' := [(6, 0, (w32 (x11 + 1))), (5, 0, (w32 (x10 + (-1)))), (0, 2, 171), (3, 0, x5), (4, 0, x6)]) dX2_spread_105 rfl (by decide) rfl ?_
            refine z_goto (pc := 108) (tgt := 68) hR dX2_spread_108 (by decide) ?_
            refine z_pick (pc := 68) (lv' := [(0, 2, 171), (3, 0, x5), (4, 0, x6), (5, 0, (w32 (x10 + (-1)))), (6, 0, (w32 (x11 + 1)))]) hR [2, 3, 4, 1, 0] rfl ?_
            exact hh68 ((w32 (x10 + (-1))), (w32 (x11 + 1)))
        refine z_ifne (pc := 85) (tgt := 93) hR dX2_spread_85 (by decide) ?_ ?_
        · exact hj93 ()
        · refine z_iload (pc := 88) hR 3 dX2_spread_88 rfl ?_
          refine z_ifle (pc := 90) (tgt := 111) hR dX2_spread_90 (by decide) ?_ ?_
          · refine z_pick (pc := 111) (lv' := [(0, 2, 171), (3, 0, x5), (4, 0, x6), (6, 0, x11)]) hR [0, 1, 2, 4] rfl ?_
            exact hj111 ()
          · exact hj93 ()
  · refine z_aload_n (pc := 13) hR 0 dX2_spread_13 rfl rfl ?_
    refine z_getr (pc := 14) hR (c0 := 4) (r := 175) jf_RX2_23 kxo_171 (by decide) rfl rfl dX2_spread_14 ?_
    refine z_iload_n (pc := 17) hR 2 dX2_spread_17 rfl rfl ?_
    refine z_iload_n (pc := 18) hR 1 dX2_spread_18 rfl rfl ?_
    refine z_aload_n (pc := 19) hR 0 dX2_spread_19 rfl rfl ?_
    refine z_geti (pc := 20) hR (j := 7) jf_RX2_43 kxo_171 (by decide) rfl rfl dX2_spread_20 ?_
    refine z_iload_n (pc := 23) hR 2 dX2_spread_23 rfl rfl ?_
    refine z_isub (pc := 24) hR dX2_spread_24 ?_
    refine z_chk (fun hc15 => ?_)
    refine z_irem (pc := 25) hR dX2_spread_25 hc15 ?_
    refine z_chk (fun hc16 => ?_)
    refine z_iast (pc := 26) hR (n := 7) kxa_175 hc16.1 hc16.2 dX2_spread_26 (fun M17 => ?_)
    refine z_iload_n (pc := 27) hR 1 dX2_spread_27 rfl rfl ?_
    refine z_aload_n (pc := 28) hR 0 dX2_spread_28 rfl rfl ?_
    refine z_geti (pc := 29) hR (j := 7) jf_RX2_43 kxo_171 (by decide) rfl rfl dX2_spread_29 ?_
    refine z_iload_n (pc := 32) hR 2 dX2_spread_32 rfl rfl ?_
    refine z_isub (pc := 33) hR dX2_spread_33 ?_
    refine z_chk (fun hc18 => ?_)
    refine z_idiv (pc := 34) hR dX2_spread_34 hc18 ?_
    refine z_let1 (fun v19 => ?_)
    refine z_istore_n (pc := 35) hR (lv' := [(2, 0, v19), (0, 2, 171), (3, 0, x3)]) dX2_spread_35 rfl (by decide) rfl ?_
    refine z_iinc (pc := 36) hR (j := 2) (lv' := [(3, 0, (w32 (x3 + (-1)))), (2, 0, v19), (0, 2, 171)]) dX2_spread_36 rfl (by decide) rfl ?_
    refine z_goto (pc := 39) (tgt := 9) hR dX2_spread_39 (by decide) ?_
    refine z_pick (pc := 9) (lv' := [(0, 2, 171), (2, 0, v19), (3, 0, (w32 (x3 + (-1))))]) hR [2, 1, 0] rfl ?_
    exact hh9 (v19, (w32 (x3 + (-1))), M17)
theorem dX2_swap_0 : decode cX2_swap 0 = .ok (.aload_n 0, 1) := by decide +kernel
theorem dX2_swap_1 : decode cX2_swap 1 = .ok (.iload_n 1, 1) := by decide +kernel
theorem dX2_swap_2 : decode cX2_swap 2 = .ok (.iaload, 1) := by decide +kernel
theorem dX2_swap_3 : decode cX2_swap 3 = .ok (.istore_n 3, 1) := by decide +kernel
theorem dX2_swap_4 : decode cX2_swap 4 = .ok (.aload_n 0, 1) := by decide +kernel
theorem dX2_swap_5 : decode cX2_swap 5 = .ok (.iload_n 1, 1) := by decide +kernel
theorem dX2_swap_6 : decode cX2_swap 6 = .ok (.aload_n 0, 1) := by decide +kernel
theorem dX2_swap_7 : decode cX2_swap 7 = .ok (.iload_n 2, 1) := by decide +kernel
theorem dX2_swap_8 : decode cX2_swap 8 = .ok (.iaload, 1) := by decide +kernel
theorem dX2_swap_9 : decode cX2_swap 9 = .ok (.iastore, 1) := by decide +kernel
theorem dX2_swap_10 : decode cX2_swap 10 = .ok (.aload_n 0, 1) := by decide +kernel
theorem dX2_swap_11 : decode cX2_swap 11 = .ok (.iload_n 2, 1) := by decide +kernel
theorem dX2_swap_12 : decode cX2_swap 12 = .ok (.iload_n 3, 1) := by decide +kernel
theorem dX2_swap_13 : decode cX2_swap 13 = .ok (.iastore, 1) := by decide +kernel
theorem dX2_swap_14 : decode cX2_swap 14 = .ok (.return_, 1) := by decide +kernel
def Li_swap (N : Nat) (a0 a1 a2 : Int) (M : jMem) : Option (Int × jMem) := jchk (0 ≤ a1 ∧ a1 < 7) <| jlt ((M a0 a1)) fun v2 => jchk (0 ≤ a2 ∧ a2 < 7) <| jchk (0 ≤ a1 ∧ a1 < 7) <| jlt (up M a0 a1 ((M a0 a2))) fun M5 => jchk (0 ≤ a2 ∧ a2 < 7) <| jlt (up M5 a0 a2 v2) fun M7 => some (0, M7)
theorem c_Li_swap {l : Launch} {g : jG} (N : Nat) (a0 a1 a2 : Int) (M : jMem) (ha0 : ja jTX a0 0 7) : ∀ o, Li_swap N a0 a1 a2 M = some o → jCt l g jTX yX2_swap cX2_swap 4 none 3 1 [(2, a0), (0, a1), (0, a2)] M o := by
  refine jMet (own := RX2) (em := id) (L := [(0, 2, a0), (1, 0, a1), (2, 0, a2)]) (by decide +kernel) rfl (Nat.le_of_ble_eq_true rfl) rfl (fun K hR => ?_)
  unfold Li_swap
  refine z_aload_n (pc := 0) hR 0 dX2_swap_0 rfl rfl ?_
  refine z_iload_n (pc := 1) hR 1 dX2_swap_1 rfl rfl ?_
  refine z_chk (fun hc1 => ?_)
  refine z_iald (pc := 2) hR (n := 7) ha0 hc1.1 hc1.2 dX2_swap_2 ?_
  refine z_let1 (fun v2 => ?_)
  refine z_istore_n (pc := 3) hR (lv' := [(3, 0, v2), (0, 2, a0), (1, 0, a1), (2, 0, a2)]) dX2_swap_3 rfl (by decide) rfl ?_
  refine z_aload_n (pc := 4) hR 1 dX2_swap_4 rfl rfl ?_
  refine z_iload_n (pc := 5) hR 2 dX2_swap_5 rfl rfl ?_
  refine z_aload_n (pc := 6) hR 1 dX2_swap_6 rfl rfl ?_
  refine z_iload_n (pc := 7) hR 3 dX2_swap_7 rfl rfl ?_
  refine z_chk (fun hc3 => ?_)
  refine z_iald (pc := 8) hR (n := 7) ha0 hc3.1 hc3.2 dX2_swap_8 ?_
  refine z_chk (fun hc4 => ?_)
  refine z_iast (pc := 9) hR (n := 7) ha0 hc4.1 hc4.2 dX2_swap_9 (fun M5 => ?_)
  refine z_aload_n (pc := 10) hR 1 dX2_swap_10 rfl rfl ?_
  refine z_iload_n (pc := 11) hR 3 dX2_swap_11 rfl rfl ?_
  refine z_iload_n (pc := 12) hR 0 dX2_swap_12 rfl rfl ?_
  refine z_chk (fun hc6 => ?_)
  refine z_iast (pc := 13) hR (n := 7) ha0 hc6.1 hc6.2 dX2_swap_13 (fun M7 => ?_)
  exact z_return (x := 0) (pc := 14) hR rfl rfl dX2_swap_14 rfl
theorem dX2_placeOf_0 : decode cX2_placeOf 0 = .ok (.iconst 0, 1) := by decide +kernel
theorem dX2_placeOf_1 : decode cX2_placeOf 1 = .ok (.istore_n 2, 1) := by decide +kernel
theorem dX2_placeOf_2 : decode cX2_placeOf 2 = .ok (.iconst 0, 1) := by decide +kernel
theorem dX2_placeOf_3 : decode cX2_placeOf 3 = .ok (.istore_n 3, 1) := by decide +kernel
theorem dX2_placeOf_4 : decode cX2_placeOf 4 = .ok (.iconst 0, 1) := by decide +kernel
theorem dX2_placeOf_5 : decode cX2_placeOf 5 = .ok (.istore 4, 2) := by decide +kernel
theorem dX2_placeOf_7 : decode cX2_placeOf 7 = .ok (.iload 4, 2) := by decide +kernel
theorem dX2_placeOf_9 : decode cX2_placeOf 9 = .ok (.aload_n 0, 1) := by decide +kernel
theorem dX2_placeOf_10 : decode cX2_placeOf 10 = .ok (.getfield 43, 3) := by decide +kernel
theorem dX2_placeOf_13 : decode cX2_placeOf 13 = .ok (.if_icmp .ge 47, 3) := by decide +kernel
theorem dX2_placeOf_16 : decode cX2_placeOf 16 = .ok (.iconst 1, 1) := by decide +kernel
theorem dX2_placeOf_17 : decode cX2_placeOf 17 = .ok (.aload_n 1, 1) := by decide +kernel
theorem dX2_placeOf_18 : decode cX2_placeOf 18 = .ok (.iload 4, 2) := by decide +kernel
theorem dX2_placeOf_20 : decode cX2_placeOf 20 = .ok (.iaload, 1) := by decide +kernel
theorem dX2_placeOf_21 : decode cX2_placeOf 21 = .ok (.ishl, 1) := by decide +kernel
theorem dX2_placeOf_22 : decode cX2_placeOf 22 = .ok (.istore 5, 2) := by decide +kernel
theorem dX2_placeOf_24 : decode cX2_placeOf 24 = .ok (.iload_n 2, 1) := by decide +kernel
theorem dX2_placeOf_25 : decode cX2_placeOf 25 = .ok (.aload_n 0, 1) := by decide +kernel
theorem dX2_placeOf_26 : decode cX2_placeOf 26 = .ok (.getfield 43, 3) := by decide +kernel
theorem dX2_placeOf_29 : decode cX2_placeOf 29 = .ok (.iload 4, 2) := by decide +kernel
theorem dX2_placeOf_31 : decode cX2_placeOf 31 = .ok (.isub, 1) := by decide +kernel
theorem dX2_placeOf_32 : decode cX2_placeOf 32 = .ok (.imul, 1) := by decide +kernel
theorem dX2_placeOf_33 : decode cX2_placeOf 33 = .ok (.aload_n 1, 1) := by decide +kernel
theorem dX2_placeOf_34 : decode cX2_placeOf 34 = .ok (.iload 4, 2) := by decide +kernel
theorem dX2_placeOf_36 : decode cX2_placeOf 36 = .ok (.iaload, 1) := by decide +kernel
theorem dX2_placeOf_37 : decode cX2_placeOf 37 = .ok (.iadd, 1) := by decide +kernel
theorem dX2_placeOf_38 : decode cX2_placeOf 38 = .ok (.iload_n 3, 1) := by decide +kernel
theorem dX2_placeOf_39 : decode cX2_placeOf 39 = .ok (.iload 5, 2) := by decide +kernel
theorem dX2_placeOf_41 : decode cX2_placeOf 41 = .ok (.iconst 1, 1) := by decide +kernel
theorem dX2_placeOf_42 : decode cX2_placeOf 42 = .ok (.isub, 1) := by decide +kernel
theorem dX2_placeOf_43 : decode cX2_placeOf 43 = .ok (.iand, 1) := by decide +kernel
theorem dX2_placeOf_44 : decode cX2_placeOf 44 = .ok (.invokestatic 66, 3) := by decide +kernel
theorem dX2_placeOf_47 : decode cX2_placeOf 47 = .ok (.isub, 1) := by decide +kernel
theorem dX2_placeOf_48 : decode cX2_placeOf 48 = .ok (.istore_n 2, 1) := by decide +kernel
theorem dX2_placeOf_49 : decode cX2_placeOf 49 = .ok (.iload_n 3, 1) := by decide +kernel
theorem dX2_placeOf_50 : decode cX2_placeOf 50 = .ok (.iload 5, 2) := by decide +kernel
theorem dX2_placeOf_52 : decode cX2_placeOf 52 = .ok (.ior, 1) := by decide +kernel
theorem dX2_placeOf_53 : decode cX2_placeOf 53 = .ok (.istore_n 3, 1) := by decide +kernel
theorem dX2_placeOf_54 : decode cX2_placeOf 54 = .ok (.iinc 4 1, 3) := by decide +kernel
theorem dX2_placeOf_57 : decode cX2_placeOf 57 = .ok (.goto (-50), 3) := by decide +kernel
theorem dX2_placeOf_60 : decode cX2_placeOf 60 = .ok (.iload_n 2, 1) := by decide +kernel
theorem dX2_placeOf_61 : decode cX2_placeOf 61 = .ok (.ireturn, 1) := by decide +kernel
def Li_placeOf_L7 (N : Nat) (a1 : Int) (M : jMem) (h7 : (Int × Int × Int) → Option Int) : Int × Int × Int → Option Int
  | (x1, x2, x3) => (if x3 < (M 171 7) then jchk (0 ≤ x3 ∧ x3 < 7) <| jlt ((jshl 1 ((M a1 x3)))) fun v5 => jchk (0 ≤ x3 ∧ x3 < 7) <| (Jn_bitCount N ((jand x2 ((w32 (v5 - 1))))) M).bind fun r7 => jlt ((w32 (((w32 (((w32 (x1 * ((w32 (((M 171 7)) - x3)))))) + ((M a1 x3))))) - r7))) fun v8 => jlt ((jor x2 v5)) fun v9 => h7 (v8, v9, (w32 (x3 + 1))) else some x1)
def Li_placeOf (N : Nat) (a1 : Int) (M : jMem) : Option Int := jfix N (Li_placeOf_L7 N a1 M) (0, 0, 0)
theorem c_Li_placeOf {l : Launch} {g : jG} (N : Nat) (a1 : Int) (M : jMem) (ha1 : ja jTX a1 0 7) : ∀ o, Li_placeOf N a1 M = some o → jCt l g jTX yX2_placeOf cX2_placeOf 6 (some .int) 0 3 [(2, 171), (2, a1)] M (o, M) := by
  refine jMet (own := RX2) (em := (fun r => (r, M))) (L := [(0, 2, 171), (1, 2, a1)]) (by decide +kernel) rfl (Nat.le_of_ble_eq_true rfl) rfl (fun K hR => ?_)
  unfold Li_placeOf
  refine z_iconst (pc := 0) hR dX2_placeOf_0 rfl ?_
  refine z_istore_n (pc := 1) hR (lv' := [(2, 0, 0), (0, 2, 171), (1, 2, a1)]) dX2_placeOf_1 rfl (by decide) rfl ?_
  refine z_iconst (pc := 2) hR dX2_placeOf_2 rfl ?_
  refine z_istore_n (pc := 3) hR (lv' := [(3, 0, 0), (2, 0, 0), (0, 2, 171), (1, 2, a1)]) dX2_placeOf_3 rfl (by decide) rfl ?_
  refine z_iconst (pc := 4) hR dX2_placeOf_4 rfl ?_
  refine z_istore (pc := 5) hR (lv' := [(4, 0, 0), (3, 0, 0), (2, 0, 0), (0, 2, 171), (1, 2, a1)]) dX2_placeOf_5 (by decide) rfl ?_
  refine z_pick (pc := 7) (lv' := [(0, 2, 171), (1, 2, a1), (2, 0, 0), (3, 0, 0), (4, 0, 0)]) hR [3, 4, 2, 1, 0] rfl ?_
  refine z_fix (σ := Int × Int × Int) (lv := fun s => [(0, 2, 171), (1, 2, a1), (2, 0, s.1), (3, 0, s.2.1), (4, 0, s.2.2)]) (st := fun _ => []) (M := fun _ => M) (fun h7 hh7 => ?_) N (0, 0, 0)
  rintro ⟨x1, x2, x3⟩
  show jZ K (fun r => (r, M)) 7 [(0, 2, 171), (1, 2, a1), (2, 0, x1), (3, 0, x2), (4, 0, x3)] [] M _
  unfold Li_placeOf_L7
  refine z_iload (pc := 7) hR 4 dX2_placeOf_7 rfl ?_
  refine z_aload_n (pc := 9) hR 0 dX2_placeOf_9 rfl rfl ?_
  refine z_geti (pc := 10) hR (j := 7) jf_RX2_43 kxo_171 (by decide) rfl rfl dX2_placeOf_10 ?_
  refine z_icmpge (pc := 13) (tgt := 60) hR dX2_placeOf_13 (by decide) ?_ ?_
  · refine z_iload_n (pc := 60) hR 2 dX2_placeOf_60 rfl rfl ?_
    exact z_ireturn (pc := 61) hR rfl rfl dX2_placeOf_61 rfl
  · refine z_iconst (pc := 16) hR dX2_placeOf_16 rfl ?_
    refine z_aload_n (pc := 17) hR 1 dX2_placeOf_17 rfl rfl ?_
    refine z_iload (pc := 18) hR 4 dX2_placeOf_18 rfl ?_
    refine z_chk (fun hc4 => ?_)
    refine z_iald (pc := 20) hR (n := 7) ha1 hc4.1 hc4.2 dX2_placeOf_20 ?_
    refine z_ishl (pc := 21) hR dX2_placeOf_21 ?_
    refine z_let1 (fun v5 => ?_)
    refine z_istore (pc := 22) hR (lv' := [(5, 0, v5), (0, 2, 171), (1, 2, a1), (2, 0, x1), (3, 0, x2), (4, 0, x3)]) dX2_placeOf_22 (by decide) rfl ?_
    refine z_iload_n (pc := 24) hR 3 dX2_placeOf_24 rfl rfl ?_
    refine z_aload_n (pc := 25) hR 1 dX2_placeOf_25 rfl rfl ?_
    refine z_geti (pc := 26) hR (j := 7) jf_RX2_43 kxo_171 (by decide) rfl rfl dX2_placeOf_26 ?_
    refine z_iload (pc := 29) hR 5 dX2_placeOf_29 rfl ?_
    refine z_isub (pc := 31) hR dX2_placeOf_31 ?_
    refine z_imul (pc := 32) hR dX2_placeOf_32 ?_
    refine z_aload_n (pc := 33) hR 2 dX2_placeOf_33 rfl rfl ?_
    refine z_iload (pc := 34) hR 5 dX2_placeOf_34 rfl ?_
    refine z_chk (fun hc6 => ?_)
    refine z_iald (pc := 36) hR (n := 7) ha1 hc6.1 hc6.2 dX2_placeOf_36 ?_
    refine z_iadd (pc := 37) hR dX2_placeOf_37 ?_
    refine z_iload_n (pc := 38) hR 4 dX2_placeOf_38 rfl rfl ?_
    refine z_iload (pc := 39) hR 0 dX2_placeOf_39 rfl ?_
    refine z_iconst (pc := 41) hR dX2_placeOf_41 rfl ?_
    refine z_isub (pc := 42) hR dX2_placeOf_42 ?_
    refine z_iand (pc := 43) hR dX2_placeOf_43 ?_
    refine z_callsp (pc := 44) hR (As := [(0, (jand x2 ((w32 (v5 - 1)))))]) (st := [(0, (w32 (((w32 (x1 * ((w32 (((M 171 7)) - x3)))))) + ((M a1 x3)))))]) jm_J6_bitCount_0f7a4 jl_RX2_66 (by decide) (c_Jn_bitCount N ((jand x2 ((w32 (v5 - 1))))) M) rfl (by decide) (by decide) rfl (Nat.le_of_ble_eq_true rfl) dX2_placeOf_44 (fun r7 => ?_)
    refine z_isub (pc := 47) hR dX2_placeOf_47 ?_
    refine z_let1 (fun v8 => ?_)
    refine z_istore_n (pc := 48) hR (lv' := [(2, 0, v8), (5, 0, v5), (0, 2, 171), (1, 2, a1), (3, 0, x2), (4, 0, x3)]) dX2_placeOf_48 rfl (by decide) rfl ?_
    refine z_iload_n (pc := 49) hR 4 dX2_placeOf_49 rfl rfl ?_
    refine z_iload (pc := 50) hR 1 dX2_placeOf_50 rfl ?_
    refine z_ior (pc := 52) hR dX2_placeOf_52 ?_
    refine z_let1 (fun v9 => ?_)
    refine z_istore_n (pc := 53) hR (lv' := [(3, 0, v9), (2, 0, v8), (5, 0, v5), (0, 2, 171), (1, 2, a1), (4, 0, x3)]) dX2_placeOf_53 rfl (by decide) rfl ?_
    refine z_iinc (pc := 54) hR (j := 5) (lv' := [(4, 0, (w32 (x3 + 1))), (3, 0, v9), (2, 0, v8), (5, 0, v5), (0, 2, 171), (1, 2, a1)]) dX2_placeOf_54 rfl (by decide) rfl ?_
    refine z_goto (pc := 57) (tgt := 7) hR dX2_placeOf_57 (by decide) ?_
    refine z_pick (pc := 7) (lv' := [(0, 2, 171), (1, 2, a1), (2, 0, v8), (3, 0, v9), (4, 0, (w32 (x3 + 1)))]) hR [4, 5, 2, 1, 0] rfl ?_
    exact hh7 (v8, v9, (w32 (x3 + 1)))
theorem dX2_reachFrom_0 : decode cX2_reachFrom 0 = .ok (.aload_n 0, 1) := by decide +kernel
theorem dX2_reachFrom_1 : decode cX2_reachFrom 1 = .ok (.iload_n 2, 1) := by decide +kernel
theorem dX2_reachFrom_2 : decode cX2_reachFrom 2 = .ok (.invokevirtual 54, 3) := by decide +kernel
theorem dX2_reachFrom_5 : decode cX2_reachFrom 5 = .ok (.iconst 0, 1) := by decide +kernel
theorem dX2_reachFrom_6 : decode cX2_reachFrom 6 = .ok (.istore_n 3, 1) := by decide +kernel
theorem dX2_reachFrom_7 : decode cX2_reachFrom 7 = .ok (.iload_n 3, 1) := by decide +kernel
theorem dX2_reachFrom_8 : decode cX2_reachFrom 8 = .ok (.aload_n 0, 1) := by decide +kernel
theorem dX2_reachFrom_9 : decode cX2_reachFrom 9 = .ok (.getfield 43, 3) := by decide +kernel
theorem dX2_reachFrom_12 : decode cX2_reachFrom 12 = .ok (.if_icmp .ge 131, 3) := by decide +kernel
theorem dX2_reachFrom_15 : decode cX2_reachFrom 15 = .ok (.iload_n 3, 1) := by decide +kernel
theorem dX2_reachFrom_16 : decode cX2_reachFrom 16 = .ok (.iconst 1, 1) := by decide +kernel
theorem dX2_reachFrom_17 : decode cX2_reachFrom 17 = .ok (.iadd, 1) := by decide +kernel
theorem dX2_reachFrom_18 : decode cX2_reachFrom 18 = .ok (.istore 4, 2) := by decide +kernel
theorem dX2_reachFrom_20 : decode cX2_reachFrom 20 = .ok (.iload 4, 2) := by decide +kernel
theorem dX2_reachFrom_22 : decode cX2_reachFrom 22 = .ok (.aload_n 0, 1) := by decide +kernel
theorem dX2_reachFrom_23 : decode cX2_reachFrom 23 = .ok (.getfield 43, 3) := by decide +kernel
theorem dX2_reachFrom_26 : decode cX2_reachFrom 26 = .ok (.if_icmp .ge 111, 3) := by decide +kernel
theorem dX2_reachFrom_29 : decode cX2_reachFrom 29 = .ok (.aload_n 1, 1) := by decide +kernel
theorem dX2_reachFrom_30 : decode cX2_reachFrom 30 = .ok (.iload_n 3, 1) := by decide +kernel
theorem dX2_reachFrom_31 : decode cX2_reachFrom 31 = .ok (.iload 4, 2) := by decide +kernel
theorem dX2_reachFrom_33 : decode cX2_reachFrom 33 = .ok (.invokevirtual 35, 3) := by decide +kernel
theorem dX2_reachFrom_36 : decode cX2_reachFrom 36 = .ok (.ifCond .ne 6, 3) := by decide +kernel
theorem dX2_reachFrom_39 : decode cX2_reachFrom 39 = .ok (.goto 92, 3) := by decide +kernel
theorem dX2_reachFrom_42 : decode cX2_reachFrom 42 = .ok (.aload_n 0, 1) := by decide +kernel
theorem dX2_reachFrom_43 : decode cX2_reachFrom 43 = .ok (.getfield 19, 3) := by decide +kernel
theorem dX2_reachFrom_46 : decode cX2_reachFrom 46 = .ok (.iload_n 3, 1) := by decide +kernel
theorem dX2_reachFrom_47 : decode cX2_reachFrom 47 = .ok (.iload 4, 2) := by decide +kernel
theorem dX2_reachFrom_49 : decode cX2_reachFrom 49 = .ok (.invokestatic 58, 3) := by decide +kernel
theorem dX2_reachFrom_52 : decode cX2_reachFrom 52 = .ok (.aload_n 0, 1) := by decide +kernel
theorem dX2_reachFrom_53 : decode cX2_reachFrom 53 = .ok (.aload_n 0, 1) := by decide +kernel
theorem dX2_reachFrom_54 : decode cX2_reachFrom 54 = .ok (.getfield 19, 3) := by decide +kernel
theorem dX2_reachFrom_57 : decode cX2_reachFrom 57 = .ok (.invokevirtual 62, 3) := by decide +kernel
theorem dX2_reachFrom_60 : decode cX2_reachFrom 60 = .ok (.istore 5, 2) := by decide +kernel
theorem dX2_reachFrom_62 : decode cX2_reachFrom 62 = .ok (.aload_n 0, 1) := by decide +kernel
theorem dX2_reachFrom_63 : decode cX2_reachFrom 63 = .ok (.getfield 19, 3) := by decide +kernel
theorem dX2_reachFrom_66 : decode cX2_reachFrom 66 = .ok (.iload_n 3, 1) := by decide +kernel
theorem dX2_reachFrom_67 : decode cX2_reachFrom 67 = .ok (.iload 4, 2) := by decide +kernel
theorem dX2_reachFrom_69 : decode cX2_reachFrom 69 = .ok (.invokestatic 58, 3) := by decide +kernel
theorem dX2_reachFrom_72 : decode cX2_reachFrom 72 = .ok (.aload_n 0, 1) := by decide +kernel
theorem dX2_reachFrom_73 : decode cX2_reachFrom 73 = .ok (.getfield 11, 3) := by decide +kernel
theorem dX2_reachFrom_76 : decode cX2_reachFrom 76 = .ok (.iload 5, 2) := by decide +kernel
theorem dX2_reachFrom_78 : decode cX2_reachFrom 78 = .ok (.baload, 1) := by decide +kernel
theorem dX2_reachFrom_79 : decode cX2_reachFrom 79 = .ok (.iconst (-1), 1) := by decide +kernel
theorem dX2_reachFrom_80 : decode cX2_reachFrom 80 = .ok (.if_icmp .ne 51, 3) := by decide +kernel
theorem dX2_reachFrom_83 : decode cX2_reachFrom 83 = .ok (.aload_n 0, 1) := by decide +kernel
theorem dX2_reachFrom_84 : decode cX2_reachFrom 84 = .ok (.getfield 47, 3) := by decide +kernel
theorem dX2_reachFrom_87 : decode cX2_reachFrom 87 = .ok (.sipush 5040, 3) := by decide +kernel
theorem dX2_reachFrom_90 : decode cX2_reachFrom 90 = .ok (.if_icmp .ge 41, 3) := by decide +kernel
theorem dX2_reachFrom_93 : decode cX2_reachFrom 93 = .ok (.aload_n 0, 1) := by decide +kernel
theorem dX2_reachFrom_94 : decode cX2_reachFrom 94 = .ok (.getfield 11, 3) := by decide +kernel
theorem dX2_reachFrom_97 : decode cX2_reachFrom 97 = .ok (.iload 5, 2) := by decide +kernel
theorem dX2_reachFrom_99 : decode cX2_reachFrom 99 = .ok (.aload_n 0, 1) := by decide +kernel
theorem dX2_reachFrom_100 : decode cX2_reachFrom 100 = .ok (.getfield 11, 3) := by decide +kernel
theorem dX2_reachFrom_103 : decode cX2_reachFrom 103 = .ok (.iload_n 2, 1) := by decide +kernel
theorem dX2_reachFrom_104 : decode cX2_reachFrom 104 = .ok (.baload, 1) := by decide +kernel
theorem dX2_reachFrom_105 : decode cX2_reachFrom 105 = .ok (.iconst 1, 1) := by decide +kernel
theorem dX2_reachFrom_106 : decode cX2_reachFrom 106 = .ok (.iadd, 1) := by decide +kernel
theorem dX2_reachFrom_107 : decode cX2_reachFrom 107 = .ok (.i2b, 1) := by decide +kernel
theorem dX2_reachFrom_108 : decode cX2_reachFrom 108 = .ok (.bastore, 1) := by decide +kernel
theorem dX2_reachFrom_109 : decode cX2_reachFrom 109 = .ok (.aload_n 0, 1) := by decide +kernel
theorem dX2_reachFrom_110 : decode cX2_reachFrom 110 = .ok (.getfield 15, 3) := by decide +kernel
theorem dX2_reachFrom_113 : decode cX2_reachFrom 113 = .ok (.aload_n 0, 1) := by decide +kernel
theorem dX2_reachFrom_114 : decode cX2_reachFrom 114 = .ok (.getfield 47, 3) := by decide +kernel
theorem dX2_reachFrom_117 : decode cX2_reachFrom 117 = .ok (.iload 5, 2) := by decide +kernel
theorem dX2_reachFrom_119 : decode cX2_reachFrom 119 = .ok (.i2s, 1) := by decide +kernel
theorem dX2_reachFrom_120 : decode cX2_reachFrom 120 = .ok (.sastore, 1) := by decide +kernel
theorem dX2_reachFrom_121 : decode cX2_reachFrom 121 = .ok (.aload_n 0, 1) := by decide +kernel
theorem dX2_reachFrom_122 : decode cX2_reachFrom 122 = .ok (.dup, 1) := by decide +kernel
theorem dX2_reachFrom_123 : decode cX2_reachFrom 123 = .ok (.getfield 47, 3) := by decide +kernel
theorem dX2_reachFrom_126 : decode cX2_reachFrom 126 = .ok (.iconst 1, 1) := by decide +kernel
theorem dX2_reachFrom_127 : decode cX2_reachFrom 127 = .ok (.iadd, 1) := by decide +kernel
theorem dX2_reachFrom_128 : decode cX2_reachFrom 128 = .ok (.putfield 47, 3) := by decide +kernel
theorem dX2_reachFrom_131 : decode cX2_reachFrom 131 = .ok (.iinc 4 1, 3) := by decide +kernel
theorem dX2_reachFrom_134 : decode cX2_reachFrom 134 = .ok (.goto (-114), 3) := by decide +kernel
theorem dX2_reachFrom_137 : decode cX2_reachFrom 137 = .ok (.iinc 3 1, 3) := by decide +kernel
theorem dX2_reachFrom_140 : decode cX2_reachFrom 140 = .ok (.goto (-133), 3) := by decide +kernel
theorem dX2_reachFrom_143 : decode cX2_reachFrom 143 = .ok (.return_, 1) := by decide +kernel
def Li_reachFrom_L20 (N : Nat) (a2 : Int) (x2 : Int) (h7 : (Int × jMem) → Option (Int × jMem)) (h20 : (Int × jMem) → Option (Int × jMem)) : Int × jMem → Option (Int × jMem)
  | (x5, M6) => (if x5 < (M6 171 7) then (Pa_areKin N 15 x2 x5 M6).bind fun r7 => (if r7 = 0 then h20 ((w32 (x5 + 1)), M6) else jbv (Li_swap N 174 x2 x5 M6) fun M8 => (Li_placeOf N 174 M8).bind fun r9 => jbv (Li_swap N 174 x2 x5 M8) fun M10 => jchk (0 ≤ r9 ∧ r9 < 5040) <| (if (M10 172 r9) = (-1) then (if (M10 171 2) < 5040 then jchk (0 ≤ a2 ∧ a2 < 5040) <| jchk (0 ≤ r9 ∧ r9 < 5040) <| jlt (up M10 172 r9 (w8 ((w8 ((w32 (((M10 172 a2)) + 1))))))) fun M14 => jchk (0 ≤ (M14 171 2) ∧ (M14 171 2) < 5040) <| jlt (up M14 173 ((M14 171 2)) (w16 ((w16 r9)))) fun M16 => jlt (up M16 171 2 ((w32 (((M16 171 2)) + 1)))) fun M17 => h20 ((w32 (x5 + 1)), M17) else h20 ((w32 (x5 + 1)), M10)) else h20 ((w32 (x5 + 1)), M10))) else h7 ((w32 (x2 + 1)), M6))
def Li_reachFrom_L7 (N : Nat) (a2 : Int) (h7 : (Int × jMem) → Option (Int × jMem)) : Int × jMem → Option (Int × jMem)
  | (x2, M3) => (if x2 < (M3 171 7) then jlt ((w32 (x2 + 1))) fun v4 => jfix N (Li_reachFrom_L20 N a2 x2 h7) (v4, M3) else some (0, M3))
def Li_reachFrom (N : Nat) (a2 : Int) (M : jMem) : Option (Int × jMem) := jbv (Li_spread N a2 M) fun M1 => jfix N (Li_reachFrom_L7 N a2) (0, M1)
theorem c_Li_reachFrom {l : Launch} {g : jG} (N : Nat) (a2 : Int) (M : jMem)  : ∀ o, Li_reachFrom N a2 M = some o → jCt l g jTX yX2_reachFrom cX2_reachFrom 6 none 3 5 [(2, 171), (2, 15), (0, a2)] M o := by
  refine jMet (own := RX2) (em := id) (L := [(0, 2, 171), (1, 2, 15), (2, 0, a2)]) (by decide +kernel) rfl (Nat.le_of_ble_eq_true rfl) rfl (fun K hR => ?_)
  unfold Li_reachFrom
  refine z_aload_n (pc := 0) hR 0 dX2_reachFrom_0 rfl rfl ?_
  refine z_iload_n (pc := 1) hR 2 dX2_reachFrom_1 rfl rfl ?_
  refine z_callv0 (pc := 2) (rk' := 3) hR (As := [(0, a2)]) (st := []) jm_X2_spread jl_RX2_54 kxo_171 (by decide) rfl (c_Li_spread N a2 M) rfl (by decide) (by decide) rfl (Nat.le_of_ble_eq_true rfl) dX2_reachFrom_2 (fun M1 => ?_)
  refine z_iconst (pc := 5) hR dX2_reachFrom_5 rfl ?_
  refine z_istore_n (pc := 6) hR (lv' := [(3, 0, 0), (0, 2, 171), (1, 2, 15), (2, 0, a2)]) dX2_reachFrom_6 rfl (by decide) rfl ?_
  refine z_pick (pc := 7) (lv' := [(0, 2, 171), (1, 2, 15), (2, 0, a2), (3, 0, 0)]) hR [1, 2, 3, 0] rfl ?_
  refine z_fix (σ := Int × jMem) (lv := fun s => [(0, 2, 171), (1, 2, 15), (2, 0, a2), (3, 0, s.1)]) (st := fun _ => []) (M := fun s => s.2) (fun h7 hh7 => ?_) N (0, M1)
  rintro ⟨x2, M3⟩
  show jZ K id 7 [(0, 2, 171), (1, 2, 15), (2, 0, a2), (3, 0, x2)] [] M3 _
  unfold Li_reachFrom_L7
  refine z_iload_n (pc := 7) hR 3 dX2_reachFrom_7 rfl rfl ?_
  refine z_aload_n (pc := 8) hR 0 dX2_reachFrom_8 rfl rfl ?_
  refine z_geti (pc := 9) hR (j := 7) jf_RX2_43 kxo_171 (by decide) rfl rfl dX2_reachFrom_9 ?_
  refine z_icmpge (pc := 12) (tgt := 143) hR dX2_reachFrom_12 (by decide) ?_ ?_
  · exact z_return (x := 0) (pc := 143) hR rfl rfl dX2_reachFrom_143 rfl
  · refine z_iload_n (pc := 15) hR 3 dX2_reachFrom_15 rfl rfl ?_
    refine z_iconst (pc := 16) hR dX2_reachFrom_16 rfl ?_
    refine z_iadd (pc := 17) hR dX2_reachFrom_17 ?_
    refine z_let1 (fun v4 => ?_)
    refine z_istore (pc := 18) hR (lv' := [(4, 0, v4), (0, 2, 171), (1, 2, 15), (2, 0, a2), (3, 0, x2)]) dX2_reachFrom_18 (by decide) rfl ?_
    refine z_pick (pc := 20) (lv' := [(0, 2, 171), (1, 2, 15), (2, 0, a2), (3, 0, x2), (4, 0, v4)]) hR [1, 2, 3, 4, 0] rfl ?_
    refine z_fix (σ := Int × jMem) (lv := fun s => [(0, 2, 171), (1, 2, 15), (2, 0, a2), (3, 0, x2), (4, 0, s.1)]) (st := fun _ => []) (M := fun s => s.2) (fun h20 hh20 => ?_) N (v4, M3)
    rintro ⟨x5, M6⟩
    show jZ K id 20 [(0, 2, 171), (1, 2, 15), (2, 0, a2), (3, 0, x2), (4, 0, x5)] [] M6 _
    unfold Li_reachFrom_L20
    refine z_iload (pc := 20) hR 4 dX2_reachFrom_20 rfl ?_
    refine z_aload_n (pc := 22) hR 0 dX2_reachFrom_22 rfl rfl ?_
    refine z_geti (pc := 23) hR (j := 7) jf_RX2_43 kxo_171 (by decide) rfl rfl dX2_reachFrom_23 ?_
    refine z_icmpge (pc := 26) (tgt := 137) hR dX2_reachFrom_26 (by decide) ?_ ?_
    · refine z_iinc (pc := 137) hR (j := 3) (lv' := [(3, 0, (w32 (x2 + 1))), (0, 2, 171), (1, 2, 15), (2, 0, a2), (4, 0, x5)]) dX2_reachFrom_137 rfl (by decide) rfl ?_
      refine z_goto (pc := 140) (tgt := 7) hR dX2_reachFrom_140 (by decide) ?_
      refine z_pick (pc := 7) (lv' := [(0, 2, 171), (1, 2, 15), (2, 0, a2), (3, 0, (w32 (x2 + 1)))]) hR [1, 2, 3, 0] rfl ?_
      exact hh7 ((w32 (x2 + 1)), M6)
    · refine z_aload_n (pc := 29) hR 1 dX2_reachFrom_29 rfl rfl ?_
      refine z_iload_n (pc := 30) hR 3 dX2_reachFrom_30 rfl rfl ?_
      refine z_iload (pc := 31) hR 4 dX2_reachFrom_31 rfl ?_
      refine z_callvp (pc := 33) hR (As := [(0, x2), (0, x5)]) (st := []) jm_X4_areKin jl_RX2_35 kxo_15 (by decide) rfl (by decide) (c_Pa_areKin N 15 x2 x5 M6 kxo_15) rfl (by decide) (by decide) rfl (Nat.le_of_ble_eq_true rfl) dX2_reachFrom_33 (fun r7 => ?_)
      refine z_ifne (pc := 36) (tgt := 42) hR dX2_reachFrom_36 (by decide) ?_ ?_
      · refine z_aload_n (pc := 42) hR 0 dX2_reachFrom_42 rfl rfl ?_
        refine z_getr (pc := 43) hR (c0 := 3) (r := 174) jf_RX2_19 kxo_171 (by decide) rfl rfl dX2_reachFrom_43 ?_
        refine z_iload_n (pc := 46) hR 3 dX2_reachFrom_46 rfl rfl ?_
        refine z_iload (pc := 47) hR 4 dX2_reachFrom_47 rfl ?_
        refine z_calls0 (pc := 49) (rk' := 3) hR (As := [(2, 174), (0, x2), (0, x5)]) (st := []) jm_X2_swap jl_RX2_58 (c_Li_swap N 174 x2 x5 M6 kxa_174) rfl (by decide) (by decide) rfl (Nat.le_of_ble_eq_true rfl) dX2_reachFrom_49 (fun M8 => ?_)
        refine z_aload_n (pc := 52) hR 0 dX2_reachFrom_52 rfl rfl ?_
        refine z_aload_n (pc := 53) hR 0 dX2_reachFrom_53 rfl rfl ?_
        refine z_getr (pc := 54) hR (c0 := 3) (r := 174) jf_RX2_19 kxo_171 (by decide) rfl rfl dX2_reachFrom_54 ?_
        refine z_callvp (pc := 57) hR (As := [(2, 174)]) (st := []) jm_X2_placeOf jl_RX2_62 kxo_171 (by decide) rfl (by decide) (c_Li_placeOf N 174 M8 kxa_174) rfl (by decide) (by decide) rfl (Nat.le_of_ble_eq_true rfl) dX2_reachFrom_57 (fun r9 => ?_)
        refine z_istore (pc := 60) hR (lv' := [(5, 0, r9), (0, 2, 171), (1, 2, 15), (2, 0, a2), (3, 0, x2), (4, 0, x5)]) dX2_reachFrom_60 (by decide) rfl ?_
        refine z_aload_n (pc := 62) hR 1 dX2_reachFrom_62 rfl rfl ?_
        refine z_getr (pc := 63) hR (c0 := 3) (r := 174) jf_RX2_19 kxo_171 (by decide) rfl rfl dX2_reachFrom_63 ?_
        refine z_iload_n (pc := 66) hR 4 dX2_reachFrom_66 rfl rfl ?_
        refine z_iload (pc := 67) hR 5 dX2_reachFrom_67 rfl ?_
        refine z_calls0 (pc := 69) (rk' := 3) hR (As := [(2, 174), (0, x2), (0, x5)]) (st := []) jm_X2_swap jl_RX2_58 (c_Li_swap N 174 x2 x5 M8 kxa_174) rfl (by decide) (by decide) rfl (Nat.le_of_ble_eq_true rfl) dX2_reachFrom_69 (fun M10 => ?_)
        refine z_aload_n (pc := 72) hR 1 dX2_reachFrom_72 rfl rfl ?_
        refine z_getr (pc := 73) hR (c0 := 1) (r := 172) jf_RX2_11 kxo_171 (by decide) rfl rfl dX2_reachFrom_73 ?_
        refine z_iload (pc := 76) hR 0 dX2_reachFrom_76 rfl ?_
        refine z_chk (fun hc11 => ?_)
        refine z_bald (pc := 78) hR (n := 5040) kxa_172 hc11.1 hc11.2 dX2_reachFrom_78 ?_
        refine z_iconst (pc := 79) hR dX2_reachFrom_79 rfl ?_
        refine z_icmpne (pc := 80) (tgt := 131) hR dX2_reachFrom_80 (by decide) ?_ ?_
        · refine z_iinc (pc := 131) hR (j := 5) (lv' := [(4, 0, (w32 (x5 + 1))), (5, 0, r9), (0, 2, 171), (1, 2, 15), (2, 0, a2), (3, 0, x2)]) dX2_reachFrom_131 rfl (by decide) rfl ?_
          refine z_goto (pc := 134) (tgt := 20) hR dX2_reachFrom_134 (by decide) ?_
          refine z_pick (pc := 20) (lv' := [(0, 2, 171), (1, 2, 15), (2, 0, a2), (3, 0, x2), (4, 0, (w32 (x5 + 1)))]) hR [2, 3, 4, 5, 0] rfl ?_
          exact hh20 ((w32 (x5 + 1)), M10)
        · refine z_aload_n (pc := 83) hR 1 dX2_reachFrom_83 rfl rfl ?_
          refine z_geti (pc := 84) hR (j := 2) jf_RX2_47 kxo_171 (by decide) rfl rfl dX2_reachFrom_84 ?_
          refine z_sipush (pc := 87) hR dX2_reachFrom_87 rfl ?_
          refine z_icmpge (pc := 90) (tgt := 131) hR dX2_reachFrom_90 (by decide) ?_ ?_
          · refine z_iinc (pc := 131) hR (j := 5) (lv' := [(4, 0, (w32 (x5 + 1))), (5, 0, r9), (0, 2, 171), (1, 2, 15), (2, 0, a2), (3, 0, x2)]) dX2_reachFrom_131 rfl (by decide) rfl ?_
            refine z_goto (pc := 134) (tgt := 20) hR dX2_reachFrom_134 (by decide) ?_
            refine z_pick (pc := 20) (lv' := [(0, 2, 171), (1, 2, 15), (2, 0, a2), (3, 0, x2), (4, 0, (w32 (x5 + 1)))]) hR [2, 3, 4, 5, 0] rfl ?_
            exact hh20 ((w32 (x5 + 1)), M10)
          · refine z_aload_n (pc := 93) hR 1 dX2_reachFrom_93 rfl rfl ?_
            refine z_getr (pc := 94) hR (c0 := 1) (r := 172) jf_RX2_11 kxo_171 (by decide) rfl rfl dX2_reachFrom_94 ?_
            refine z_iload (pc := 97) hR 0 dX2_reachFrom_97 rfl ?_
            refine z_aload_n (pc := 99) hR 1 dX2_reachFrom_99 rfl rfl ?_
            refine z_getr (pc := 100) hR (c0 := 1) (r := 172) jf_RX2_11 kxo_171 (by decide) rfl rfl dX2_reachFrom_100 ?_
            refine z_iload_n (pc := 103) hR 3 dX2_reachFrom_103 rfl rfl ?_
            refine z_chk (fun hc12 => ?_)
            refine z_bald (pc := 104) hR (n := 5040) kxa_172 hc12.1 hc12.2 dX2_reachFrom_104 ?_
            refine z_iconst (pc := 105) hR dX2_reachFrom_105 rfl ?_
            refine z_iadd (pc := 106) hR dX2_reachFrom_106 ?_
            refine z_i2b (pc := 107) hR dX2_reachFrom_107 ?_
            refine z_chk (fun hc13 => ?_)
            refine z_bast (pc := 108) hR (n := 5040) kxa_172 hc13.1 hc13.2 dX2_reachFrom_108 (fun M14 => ?_)
            refine z_aload_n (pc := 109) hR 1 dX2_reachFrom_109 rfl rfl ?_
            refine z_getr (pc := 110) hR (c0 := 2) (r := 173) jf_RX2_15 kxo_171 (by decide) rfl rfl dX2_reachFrom_110 ?_
            refine z_aload_n (pc := 113) hR 1 dX2_reachFrom_113 rfl rfl ?_
            refine z_geti (pc := 114) hR (j := 2) jf_RX2_47 kxo_171 (by decide) rfl rfl dX2_reachFrom_114 ?_
            refine z_iload (pc := 117) hR 0 dX2_reachFrom_117 rfl ?_
            refine z_i2s (pc := 119) hR dX2_reachFrom_119 ?_
            refine z_chk (fun hc15 => ?_)
            refine z_sast (pc := 120) hR (n := 5040) kxa_173 hc15.1 hc15.2 dX2_reachFrom_120 (fun M16 => ?_)
            refine z_aload_n (pc := 121) hR 1 dX2_reachFrom_121 rfl rfl ?_
            refine z_dup (pc := 122) hR dX2_reachFrom_122 (by decide) ?_
            refine z_geti (pc := 123) hR (j := 2) jf_RX2_47 kxo_171 (by decide) rfl rfl dX2_reachFrom_123 ?_
            refine z_iconst (pc := 126) hR dX2_reachFrom_126 rfl ?_
            refine z_iadd (pc := 127) hR dX2_reachFrom_127 ?_
            refine z_puti (pc := 128) hR (j := 2) jp_RX2_47 kxo_171 (by decide) rfl rfl rfl rfl dX2_reachFrom_128 (fun M17 => ?_)
            refine z_iinc (pc := 131) hR (j := 5) (lv' := [(4, 0, (w32 (x5 + 1))), (5, 0, r9), (0, 2, 171), (1, 2, 15), (2, 0, a2), (3, 0, x2)]) dX2_reachFrom_131 rfl (by decide) rfl ?_
            refine z_goto (pc := 134) (tgt := 20) hR dX2_reachFrom_134 (by decide) ?_
            refine z_pick (pc := 20) (lv' := [(0, 2, 171), (1, 2, 15), (2, 0, a2), (3, 0, x2), (4, 0, (w32 (x5 + 1)))]) hR [2, 3, 4, 5, 0] rfl ?_
            exact hh20 ((w32 (x5 + 1)), M17)
      · refine z_goto (pc := 39) (tgt := 131) hR dX2_reachFrom_39 (by decide) ?_
        refine z_iinc (pc := 131) hR (j := 4) (lv' := [(4, 0, (w32 (x5 + 1))), (0, 2, 171), (1, 2, 15), (2, 0, a2), (3, 0, x2)]) dX2_reachFrom_131 rfl (by decide) rfl ?_
        refine z_goto (pc := 134) (tgt := 20) hR dX2_reachFrom_134 (by decide) ?_
        refine z_pick (pc := 20) (lv' := [(0, 2, 171), (1, 2, 15), (2, 0, a2), (3, 0, x2), (4, 0, (w32 (x5 + 1)))]) hR [1, 2, 3, 4, 0] rfl ?_
        exact hh20 ((w32 (x5 + 1)), M6)
theorem dX2_fillFor_0 : decode cX2_fillFor 0 = .ok (.aload_n 1, 1) := by decide +kernel
theorem dX2_fillFor_1 : decode cX2_fillFor 1 = .ok (.invokestatic 39, 3) := by decide +kernel
theorem dX2_fillFor_4 : decode cX2_fillFor 4 = .ok (.istore_n 2, 1) := by decide +kernel
theorem dX2_fillFor_5 : decode cX2_fillFor 5 = .ok (.aload_n 0, 1) := by decide +kernel
theorem dX2_fillFor_6 : decode cX2_fillFor 6 = .ok (.aload_n 1, 1) := by decide +kernel
theorem dX2_fillFor_7 : decode cX2_fillFor 7 = .ok (.getfield 29, 3) := by decide +kernel
theorem dX2_fillFor_10 : decode cX2_fillFor 10 = .ok (.putfield 43, 3) := by decide +kernel
theorem dX2_fillFor_13 : decode cX2_fillFor 13 = .ok (.aload_n 0, 1) := by decide +kernel
theorem dX2_fillFor_14 : decode cX2_fillFor 14 = .ok (.getfield 44, 3) := by decide +kernel
theorem dX2_fillFor_17 : decode cX2_fillFor 17 = .ok (.iload_n 2, 1) := by decide +kernel
theorem dX2_fillFor_18 : decode cX2_fillFor 18 = .ok (.if_icmp .ne 4, 3) := by decide +kernel
theorem dX2_fillFor_21 : decode cX2_fillFor 21 = .ok (.return_, 1) := by decide +kernel
theorem dX2_fillFor_22 : decode cX2_fillFor 22 = .ok (.aload_n 0, 1) := by decide +kernel
theorem dX2_fillFor_23 : decode cX2_fillFor 23 = .ok (.iload_n 2, 1) := by decide +kernel
theorem dX2_fillFor_24 : decode cX2_fillFor 24 = .ok (.putfield 44, 3) := by decide +kernel
theorem dX2_fillFor_27 : decode cX2_fillFor 27 = .ok (.iconst 0, 1) := by decide +kernel
theorem dX2_fillFor_28 : decode cX2_fillFor 28 = .ok (.istore_n 3, 1) := by decide +kernel
theorem dX2_fillFor_29 : decode cX2_fillFor 29 = .ok (.iload_n 3, 1) := by decide +kernel
theorem dX2_fillFor_30 : decode cX2_fillFor 30 = .ok (.sipush 5040, 3) := by decide +kernel
theorem dX2_fillFor_33 : decode cX2_fillFor 33 = .ok (.if_icmp .ge 16, 3) := by decide +kernel
theorem dX2_fillFor_36 : decode cX2_fillFor 36 = .ok (.aload_n 0, 1) := by decide +kernel
theorem dX2_fillFor_37 : decode cX2_fillFor 37 = .ok (.getfield 11, 3) := by decide +kernel
theorem dX2_fillFor_40 : decode cX2_fillFor 40 = .ok (.iload_n 3, 1) := by decide +kernel
theorem dX2_fillFor_41 : decode cX2_fillFor 41 = .ok (.iconst (-1), 1) := by decide +kernel
theorem dX2_fillFor_42 : decode cX2_fillFor 42 = .ok (.bastore, 1) := by decide +kernel
theorem dX2_fillFor_43 : decode cX2_fillFor 43 = .ok (.iinc 3 1, 3) := by decide +kernel
theorem dX2_fillFor_46 : decode cX2_fillFor 46 = .ok (.goto (-17), 3) := by decide +kernel
theorem dX2_fillFor_49 : decode cX2_fillFor 49 = .ok (.aload_n 0, 1) := by decide +kernel
theorem dX2_fillFor_50 : decode cX2_fillFor 50 = .ok (.getfield 11, 3) := by decide +kernel
theorem dX2_fillFor_53 : decode cX2_fillFor 53 = .ok (.iconst 0, 1) := by decide +kernel
theorem dX2_fillFor_54 : decode cX2_fillFor 54 = .ok (.iconst 0, 1) := by decide +kernel
theorem dX2_fillFor_55 : decode cX2_fillFor 55 = .ok (.bastore, 1) := by decide +kernel
theorem dX2_fillFor_56 : decode cX2_fillFor 56 = .ok (.aload_n 0, 1) := by decide +kernel
theorem dX2_fillFor_57 : decode cX2_fillFor 57 = .ok (.getfield 15, 3) := by decide +kernel
theorem dX2_fillFor_60 : decode cX2_fillFor 60 = .ok (.iconst 0, 1) := by decide +kernel
theorem dX2_fillFor_61 : decode cX2_fillFor 61 = .ok (.iconst 0, 1) := by decide +kernel
theorem dX2_fillFor_62 : decode cX2_fillFor 62 = .ok (.sastore, 1) := by decide +kernel
theorem dX2_fillFor_63 : decode cX2_fillFor 63 = .ok (.aload_n 0, 1) := by decide +kernel
theorem dX2_fillFor_64 : decode cX2_fillFor 64 = .ok (.iconst 1, 1) := by decide +kernel
theorem dX2_fillFor_65 : decode cX2_fillFor 65 = .ok (.putfield 47, 3) := by decide +kernel
theorem dX2_fillFor_68 : decode cX2_fillFor 68 = .ok (.iconst 0, 1) := by decide +kernel
theorem dX2_fillFor_69 : decode cX2_fillFor 69 = .ok (.istore_n 3, 1) := by decide +kernel
theorem dX2_fillFor_70 : decode cX2_fillFor 70 = .ok (.iload_n 3, 1) := by decide +kernel
theorem dX2_fillFor_71 : decode cX2_fillFor 71 = .ok (.aload_n 0, 1) := by decide +kernel
theorem dX2_fillFor_72 : decode cX2_fillFor 72 = .ok (.getfield 47, 3) := by decide +kernel
theorem dX2_fillFor_75 : decode cX2_fillFor 75 = .ok (.if_icmp .ge 27, 3) := by decide +kernel
theorem dX2_fillFor_78 : decode cX2_fillFor 78 = .ok (.iload_n 3, 1) := by decide +kernel
theorem dX2_fillFor_79 : decode cX2_fillFor 79 = .ok (.sipush 5040, 3) := by decide +kernel
theorem dX2_fillFor_82 : decode cX2_fillFor 82 = .ok (.if_icmp .ge 20, 3) := by decide +kernel
theorem dX2_fillFor_85 : decode cX2_fillFor 85 = .ok (.aload_n 0, 1) := by decide +kernel
theorem dX2_fillFor_86 : decode cX2_fillFor 86 = .ok (.aload_n 1, 1) := by decide +kernel
theorem dX2_fillFor_87 : decode cX2_fillFor 87 = .ok (.aload_n 0, 1) := by decide +kernel
theorem dX2_fillFor_88 : decode cX2_fillFor 88 = .ok (.getfield 15, 3) := by decide +kernel
theorem dX2_fillFor_91 : decode cX2_fillFor 91 = .ok (.iload_n 3, 1) := by decide +kernel
theorem dX2_fillFor_92 : decode cX2_fillFor 92 = .ok (.saload, 1) := by decide +kernel
theorem dX2_fillFor_93 : decode cX2_fillFor 93 = .ok (.invokevirtual 50, 3) := by decide +kernel
theorem dX2_fillFor_96 : decode cX2_fillFor 96 = .ok (.iinc 3 1, 3) := by decide +kernel
theorem dX2_fillFor_99 : decode cX2_fillFor 99 = .ok (.goto (-29), 3) := by decide +kernel
theorem dX2_fillFor_102 : decode cX2_fillFor 102 = .ok (.return_, 1) := by decide +kernel
def Li_fillFor_L70 (N : Nat)  (h70 : (Int × jMem) → Option (Int × jMem)) : Int × jMem → Option (Int × jMem)
  | (x9, M10) => (if x9 < (M10 171 2) then (if x9 < 5040 then jchk (0 ≤ x9 ∧ x9 < 5040) <| jbv (Li_reachFrom N ((M10 173 x9)) M10) fun M12 => h70 ((w32 (x9 + 1)), M12) else some (0, M10)) else some (0, M10))
def Li_fillFor_L29 (N : Nat)  (h29 : (Int × jMem) → Option (Int × jMem)) : Int × jMem → Option (Int × jMem)
  | (x4, M5) => (if x4 < 5040 then jchk (0 ≤ x4 ∧ x4 < 5040) <| jlt (up M5 172 x4 (w8 ((-1)))) fun M14 => h29 ((w32 (x4 + 1)), M14) else jlt (up M5 172 0 (w8 0)) fun M6 => jlt (up M6 173 0 (w16 0)) fun M7 => jlt (up M7 171 2 1) fun M8 => jfix N (Li_fillFor_L70 N) (0, M8))
def Li_fillFor (N : Nat) (M : jMem) : Option (Int × jMem) := (Li_bitsOf N M).bind fun r1 => jlt (up M 171 7 ((M 15 0))) fun M2 => (if (M2 171 3) = r1 then some (0, M2) else jlt (up M2 171 3 r1) fun M3 => jfix N (Li_fillFor_L29 N) (0, M3))
theorem c_Li_fillFor {l : Launch} {g : jG} (N : Nat) (M : jMem)  : ∀ o, Li_fillFor N  M = some o → jCt l g jTX yX2_fillFor cX2_fillFor 4 none 3 7 [(2, 171), (2, 15)] M o := by
  refine jMet (own := RX2) (em := id) (L := [(0, 2, 171), (1, 2, 15)]) (by decide +kernel) rfl (Nat.le_of_ble_eq_true rfl) rfl (fun K hR => ?_)
  unfold Li_fillFor
  refine z_aload_n (pc := 0) hR 1 dX2_fillFor_0 rfl rfl ?_
  refine z_callsp (pc := 1) hR (As := [(2, 15)]) (st := []) jm_X2_bitsOf jl_RX2_39 (by decide) (c_Li_bitsOf N M) rfl (by decide) (by decide) rfl (Nat.le_of_ble_eq_true rfl) dX2_fillFor_1 (fun r1 => ?_)
  refine z_istore_n (pc := 4) hR (lv' := [(2, 0, r1), (0, 2, 171), (1, 2, 15)]) dX2_fillFor_4 rfl (by decide) rfl ?_
  refine z_aload_n (pc := 5) hR 1 dX2_fillFor_5 rfl rfl ?_
  refine z_aload_n (pc := 6) hR 2 dX2_fillFor_6 rfl rfl ?_
  refine z_geti (pc := 7) hR (j := 0) jf_RX2_29 kxo_15 (by decide) rfl rfl dX2_fillFor_7 ?_
  refine z_puti (pc := 10) hR (j := 7) jp_RX2_43 kxo_171 (by decide) rfl rfl rfl rfl dX2_fillFor_10 (fun M2 => ?_)
  refine z_aload_n (pc := 13) hR 1 dX2_fillFor_13 rfl rfl ?_
  refine z_geti (pc := 14) hR (j := 3) jf_RX2_44 kxo_171 (by decide) rfl rfl dX2_fillFor_14 ?_
  refine z_iload_n (pc := 17) hR 0 dX2_fillFor_17 rfl rfl ?_
  refine z_icmpne (pc := 18) (tgt := 22) hR dX2_fillFor_18 (by decide) ?_ ?_
  · refine z_aload_n (pc := 22) hR 1 dX2_fillFor_22 rfl rfl ?_
    refine z_iload_n (pc := 23) hR 0 dX2_fillFor_23 rfl rfl ?_
    refine z_puti (pc := 24) hR (j := 3) jp_RX2_44 kxo_171 (by decide) rfl rfl rfl rfl dX2_fillFor_24 (fun M3 => ?_)
    refine z_iconst (pc := 27) hR dX2_fillFor_27 rfl ?_
    refine z_istore_n (pc := 28) hR (lv' := [(3, 0, 0), (2, 0, r1), (0, 2, 171), (1, 2, 15)]) dX2_fillFor_28 rfl (by decide) rfl ?_
    refine z_pick (pc := 29) (lv' := [(0, 2, 171), (1, 2, 15), (3, 0, 0)]) hR [2, 3, 0] rfl ?_
    refine z_fix (σ := Int × jMem) (lv := fun s => [(0, 2, 171), (1, 2, 15), (3, 0, s.1)]) (st := fun _ => []) (M := fun s => s.2) (fun h29 hh29 => ?_) N (0, M3)
    rintro ⟨x4, M5⟩
    show jZ K id 29 [(0, 2, 171), (1, 2, 15), (3, 0, x4)] [] M5 _
    unfold Li_fillFor_L29
    refine z_iload_n (pc := 29) hR 2 dX2_fillFor_29 rfl rfl ?_
    refine z_sipush (pc := 30) hR dX2_fillFor_30 rfl ?_
    refine z_icmpge (pc := 33) (tgt := 49) hR dX2_fillFor_33 (by decide) ?_ ?_
    · refine z_aload_n (pc := 49) hR 0 dX2_fillFor_49 rfl rfl ?_
      refine z_getr (pc := 50) hR (c0 := 1) (r := 172) jf_RX2_11 kxo_171 (by decide) rfl rfl dX2_fillFor_50 ?_
      refine z_iconst (pc := 53) hR dX2_fillFor_53 rfl ?_
      refine z_iconst (pc := 54) hR dX2_fillFor_54 rfl ?_
      refine z_bast (pc := 55) hR (n := 5040) kxa_172 (by decide) (by decide) dX2_fillFor_55 (fun M6 => ?_)
      refine z_aload_n (pc := 56) hR 0 dX2_fillFor_56 rfl rfl ?_
      refine z_getr (pc := 57) hR (c0 := 2) (r := 173) jf_RX2_15 kxo_171 (by decide) rfl rfl dX2_fillFor_57 ?_
      refine z_iconst (pc := 60) hR dX2_fillFor_60 rfl ?_
      refine z_iconst (pc := 61) hR dX2_fillFor_61 rfl ?_
      refine z_sast (pc := 62) hR (n := 5040) kxa_173 (by decide) (by decide) dX2_fillFor_62 (fun M7 => ?_)
      refine z_aload_n (pc := 63) hR 0 dX2_fillFor_63 rfl rfl ?_
      refine z_iconst (pc := 64) hR dX2_fillFor_64 rfl ?_
      refine z_puti (pc := 65) hR (j := 2) jp_RX2_47 kxo_171 (by decide) rfl rfl rfl rfl dX2_fillFor_65 (fun M8 => ?_)
      refine z_iconst (pc := 68) hR dX2_fillFor_68 rfl ?_
      refine z_istore_n (pc := 69) hR (lv' := [(3, 0, 0), (0, 2, 171), (1, 2, 15)]) dX2_fillFor_69 rfl (by decide) rfl ?_
      refine z_pick (pc := 70) (lv' := [(0, 2, 171), (1, 2, 15), (3, 0, 0)]) hR [1, 2, 0] rfl ?_
      refine z_fix (σ := Int × jMem) (lv := fun s => [(0, 2, 171), (1, 2, 15), (3, 0, s.1)]) (st := fun _ => []) (M := fun s => s.2) (fun h70 hh70 => ?_) N (0, M8)
      rintro ⟨x9, M10⟩
      show jZ K id 70 [(0, 2, 171), (1, 2, 15), (3, 0, x9)] [] M10 _
      unfold Li_fillFor_L70
      refine z_iload_n (pc := 70) hR 2 dX2_fillFor_70 rfl rfl ?_
      refine z_aload_n (pc := 71) hR 0 dX2_fillFor_71 rfl rfl ?_
      refine z_geti (pc := 72) hR (j := 2) jf_RX2_47 kxo_171 (by decide) rfl rfl dX2_fillFor_72 ?_
      refine z_icmpge (pc := 75) (tgt := 102) hR dX2_fillFor_75 (by decide) ?_ ?_
      · exact z_return (x := 0) (pc := 102) hR rfl rfl dX2_fillFor_102 rfl
      · refine z_iload_n (pc := 78) hR 2 dX2_fillFor_78 rfl rfl ?_
        refine z_sipush (pc := 79) hR dX2_fillFor_79 rfl ?_
        refine z_icmpge (pc := 82) (tgt := 102) hR dX2_fillFor_82 (by decide) ?_ ?_
        · exact z_return (x := 0) (pc := 102) hR rfl rfl dX2_fillFor_102 rfl
        · refine z_aload_n (pc := 85) hR 0 dX2_fillFor_85 rfl rfl ?_
          refine z_aload_n (pc := 86) hR 1 dX2_fillFor_86 rfl rfl ?_
          refine z_aload_n (pc := 87) hR 0 dX2_fillFor_87 rfl rfl ?_
          refine z_getr (pc := 88) hR (c0 := 2) (r := 173) jf_RX2_15 kxo_171 (by decide) rfl rfl dX2_fillFor_88 ?_
          refine z_iload_n (pc := 91) hR 2 dX2_fillFor_91 rfl rfl ?_
          refine z_chk (fun hc11 => ?_)
          refine z_sald (pc := 92) hR (n := 5040) kxa_173 hc11.1 hc11.2 dX2_fillFor_92 ?_
          refine z_callv0 (pc := 93) (rk' := 3) hR (As := [(2, 15), (0, (M10 173 x9))]) (st := []) jm_X2_reachFrom jl_RX2_50 kxo_171 (by decide) rfl (c_Li_reachFrom N ((M10 173 x9)) M10) rfl (by decide) (by decide) rfl (Nat.le_of_ble_eq_true rfl) dX2_fillFor_93 (fun M12 => ?_)
          refine z_iinc (pc := 96) hR (j := 2) (lv' := [(3, 0, (w32 (x9 + 1))), (0, 2, 171), (1, 2, 15)]) dX2_fillFor_96 rfl (by decide) rfl ?_
          refine z_goto (pc := 99) (tgt := 70) hR dX2_fillFor_99 (by decide) ?_
          refine z_pick (pc := 70) (lv' := [(0, 2, 171), (1, 2, 15), (3, 0, (w32 (x9 + 1)))]) hR [1, 2, 0] rfl ?_
          exact hh70 ((w32 (x9 + 1)), M12)
    · refine z_aload_n (pc := 36) hR 0 dX2_fillFor_36 rfl rfl ?_
      refine z_getr (pc := 37) hR (c0 := 1) (r := 172) jf_RX2_11 kxo_171 (by decide) rfl rfl dX2_fillFor_37 ?_
      refine z_iload_n (pc := 40) hR 2 dX2_fillFor_40 rfl rfl ?_
      refine z_iconst (pc := 41) hR dX2_fillFor_41 rfl ?_
      refine z_chk (fun hc13 => ?_)
      refine z_bast (pc := 42) hR (n := 5040) kxa_172 hc13.1 hc13.2 dX2_fillFor_42 (fun M14 => ?_)
      refine z_iinc (pc := 43) hR (j := 2) (lv' := [(3, 0, (w32 (x4 + 1))), (0, 2, 171), (1, 2, 15)]) dX2_fillFor_43 rfl (by decide) rfl ?_
      refine z_goto (pc := 46) (tgt := 29) hR dX2_fillFor_46 (by decide) ?_
      refine z_pick (pc := 29) (lv' := [(0, 2, 171), (1, 2, 15), (3, 0, (w32 (x4 + 1)))]) hR [1, 2, 0] rfl ?_
      exact hh29 ((w32 (x4 + 1)), M14)
  · exact z_return (x := 0) (pc := 21) hR rfl rfl dX2_fillFor_21 rfl
theorem dX2_aimAt_0 : decode cX2_aimAt 0 = .ok (.aload_n 0, 1) := by decide +kernel
theorem dX2_aimAt_1 : decode cX2_aimAt 1 = .ok (.aload_n 1, 1) := by decide +kernel
theorem dX2_aimAt_2 : decode cX2_aimAt 2 = .ok (.getfield 72, 3) := by decide +kernel
theorem dX2_aimAt_5 : decode cX2_aimAt 5 = .ok (.invokevirtual 78, 3) := by decide +kernel
theorem dX2_aimAt_8 : decode cX2_aimAt 8 = .ok (.iload_n 2, 1) := by decide +kernel
theorem dX2_aimAt_9 : decode cX2_aimAt 9 = .ok (.istore_n 3, 1) := by decide +kernel
theorem dX2_aimAt_10 : decode cX2_aimAt 10 = .ok (.iconst 0, 1) := by decide +kernel
theorem dX2_aimAt_11 : decode cX2_aimAt 11 = .ok (.istore 4, 2) := by decide +kernel
theorem dX2_aimAt_13 : decode cX2_aimAt 13 = .ok (.aload_n 0, 1) := by decide +kernel
theorem dX2_aimAt_14 : decode cX2_aimAt 14 = .ok (.getfield 43, 3) := by decide +kernel
theorem dX2_aimAt_17 : decode cX2_aimAt 17 = .ok (.iconst 1, 1) := by decide +kernel
theorem dX2_aimAt_18 : decode cX2_aimAt 18 = .ok (.isub, 1) := by decide +kernel
theorem dX2_aimAt_19 : decode cX2_aimAt 19 = .ok (.istore 5, 2) := by decide +kernel
theorem dX2_aimAt_21 : decode cX2_aimAt 21 = .ok (.iload 5, 2) := by decide +kernel
theorem dX2_aimAt_23 : decode cX2_aimAt 23 = .ok (.ifCond .lt 73, 3) := by decide +kernel
theorem dX2_aimAt_26 : decode cX2_aimAt 26 = .ok (.iload_n 3, 1) := by decide +kernel
theorem dX2_aimAt_27 : decode cX2_aimAt 27 = .ok (.bipush 10, 2) := by decide +kernel
theorem dX2_aimAt_29 : decode cX2_aimAt 29 = .ok (.irem, 1) := by decide +kernel
theorem dX2_aimAt_30 : decode cX2_aimAt 30 = .ok (.iconst 1, 1) := by decide +kernel
theorem dX2_aimAt_31 : decode cX2_aimAt 31 = .ok (.isub, 1) := by decide +kernel
theorem dX2_aimAt_32 : decode cX2_aimAt 32 = .ok (.istore 6, 2) := by decide +kernel
theorem dX2_aimAt_34 : decode cX2_aimAt 34 = .ok (.iload_n 3, 1) := by decide +kernel
theorem dX2_aimAt_35 : decode cX2_aimAt 35 = .ok (.bipush 10, 2) := by decide +kernel
theorem dX2_aimAt_37 : decode cX2_aimAt 37 = .ok (.idiv, 1) := by decide +kernel
theorem dX2_aimAt_38 : decode cX2_aimAt 38 = .ok (.istore_n 3, 1) := by decide +kernel
theorem dX2_aimAt_39 : decode cX2_aimAt 39 = .ok (.iload 6, 2) := by decide +kernel
theorem dX2_aimAt_41 : decode cX2_aimAt 41 = .ok (.ifCond .lt 22, 3) := by decide +kernel
theorem dX2_aimAt_44 : decode cX2_aimAt 44 = .ok (.iload 6, 2) := by decide +kernel
theorem dX2_aimAt_46 : decode cX2_aimAt 46 = .ok (.aload_n 0, 1) := by decide +kernel
theorem dX2_aimAt_47 : decode cX2_aimAt 47 = .ok (.getfield 43, 3) := by decide +kernel
theorem dX2_aimAt_50 : decode cX2_aimAt 50 = .ok (.if_icmp .ge 13, 3) := by decide +kernel
theorem dX2_aimAt_53 : decode cX2_aimAt 53 = .ok (.iload 4, 2) := by decide +kernel
theorem dX2_aimAt_55 : decode cX2_aimAt 55 = .ok (.iload 6, 2) := by decide +kernel
theorem dX2_aimAt_57 : decode cX2_aimAt 57 = .ok (.ishr, 1) := by decide +kernel
theorem dX2_aimAt_58 : decode cX2_aimAt 58 = .ok (.iconst 1, 1) := by decide +kernel
theorem dX2_aimAt_59 : decode cX2_aimAt 59 = .ok (.iand, 1) := by decide +kernel
theorem dX2_aimAt_60 : decode cX2_aimAt 60 = .ok (.ifCond .eq 5, 3) := by decide +kernel
theorem dX2_aimAt_63 : decode cX2_aimAt 63 = .ok (.iconst 0, 1) := by decide +kernel
theorem dX2_aimAt_64 : decode cX2_aimAt 64 = .ok (.ireturn, 1) := by decide +kernel
theorem dX2_aimAt_65 : decode cX2_aimAt 65 = .ok (.iload 4, 2) := by decide +kernel
theorem dX2_aimAt_67 : decode cX2_aimAt 67 = .ok (.iconst 1, 1) := by decide +kernel
theorem dX2_aimAt_68 : decode cX2_aimAt 68 = .ok (.iload 6, 2) := by decide +kernel
theorem dX2_aimAt_70 : decode cX2_aimAt 70 = .ok (.ishl, 1) := by decide +kernel
theorem dX2_aimAt_71 : decode cX2_aimAt 71 = .ok (.ior, 1) := by decide +kernel
theorem dX2_aimAt_72 : decode cX2_aimAt 72 = .ok (.istore 4, 2) := by decide +kernel
theorem dX2_aimAt_74 : decode cX2_aimAt 74 = .ok (.aload_n 0, 1) := by decide +kernel
theorem dX2_aimAt_75 : decode cX2_aimAt 75 = .ok (.getfield 26, 3) := by decide +kernel
theorem dX2_aimAt_78 : decode cX2_aimAt 78 = .ok (.iload 5, 2) := by decide +kernel
theorem dX2_aimAt_80 : decode cX2_aimAt 80 = .ok (.aload_n 1, 1) := by decide +kernel
theorem dX2_aimAt_81 : decode cX2_aimAt 81 = .ok (.getfield 82, 3) := by decide +kernel
theorem dX2_aimAt_84 : decode cX2_aimAt 84 = .ok (.iload 6, 2) := by decide +kernel
theorem dX2_aimAt_86 : decode cX2_aimAt 86 = .ok (.invokevirtual 86, 3) := by decide +kernel
theorem dX2_aimAt_89 : decode cX2_aimAt 89 = .ok (.iastore, 1) := by decide +kernel
theorem dX2_aimAt_90 : decode cX2_aimAt 90 = .ok (.iinc 5 (-1), 3) := by decide +kernel
theorem dX2_aimAt_93 : decode cX2_aimAt 93 = .ok (.goto (-72), 3) := by decide +kernel
theorem dX2_aimAt_96 : decode cX2_aimAt 96 = .ok (.iload_n 3, 1) := by decide +kernel
theorem dX2_aimAt_97 : decode cX2_aimAt 97 = .ok (.ifCond .ne 7, 3) := by decide +kernel
theorem dX2_aimAt_100 : decode cX2_aimAt 100 = .ok (.iconst 1, 1) := by decide +kernel
theorem dX2_aimAt_101 : decode cX2_aimAt 101 = .ok (.goto 4, 3) := by decide +kernel
theorem dX2_aimAt_104 : decode cX2_aimAt 104 = .ok (.iconst 0, 1) := by decide +kernel
theorem dX2_aimAt_105 : decode cX2_aimAt 105 = .ok (.ireturn, 1) := by decide +kernel
def Li_aimAt_L21 (N : Nat)  (h21 : (Int × Int × Int × jMem) → Option (Int × jMem)) : Int × Int × Int × jMem → Option (Int × jMem)
  | (x3, x4, x5, M6) => (if x5 < 0 then (if x3 = 0 then some (1, M6) else some (0, M6)) else jlt ((w32 (((x3.tmod 10)) - 1))) fun v7 => jlt ((w32 (x3.tdiv 10))) fun v8 => (if v7 < 0 then some (0, M6) else (if v7 < (M6 171 7) then (if (jand ((jshr x4 v7)) 1) = 0 then jlt ((jor x4 ((jshl 1 v7)))) fun v9 => (St_farmThatHas N 21 v7 M6).bind fun r10 => jchk (0 ≤ x5 ∧ x5 < 7) <| jlt (up M6 176 x5 r10) fun M12 => h21 (v8, v9, (w32 (x5 + (-1))), M12) else some (0, M6)) else some (0, M6))))
def Li_aimAt (N : Nat) (a2 : Int) (M : jMem) : Option (Int × jMem) := jbv (Li_fillFor N M) fun M1 => jlt ((w32 (((M1 171 7)) - 1))) fun v2 => jfix N (Li_aimAt_L21 N) (a2, 0, v2, M1)
theorem c_Li_aimAt {l : Launch} {g : jG} (N : Nat) (a2 : Int) (M : jMem)  : ∀ o, Li_aimAt N a2 M = some o → jCt l g jTX yX2_aimAt cX2_aimAt 7 (some .boolean) 0 9 [(2, 171), (2, 14), (0, a2)] M o := by
  refine jMet (own := RX2) (em := id) (L := [(0, 2, 171), (1, 2, 14), (2, 0, a2)]) (by decide +kernel) rfl (Nat.le_of_ble_eq_true rfl) rfl (fun K hR => ?_)
  unfold Li_aimAt
  refine z_aload_n (pc := 0) hR 0 dX2_aimAt_0 rfl rfl ?_
  refine z_aload_n (pc := 1) hR 1 dX2_aimAt_1 rfl rfl ?_
  refine z_getr (pc := 2) hR (c0 := 1) (r := 15) jf_RX2_72 kxo_14 (by decide) rfl rfl dX2_aimAt_2 ?_
  refine z_callv0 (pc := 5) (rk' := 3) hR (As := [(2, 15)]) (st := []) jm_X2_fillFor jl_RX2_78 kxo_171 (by decide) rfl (c_Li_fillFor N M) rfl (by decide) (by decide) rfl (Nat.le_of_ble_eq_true rfl) dX2_aimAt_5 (fun M1 => ?_)
  refine z_iload_n (pc := 8) hR 2 dX2_aimAt_8 rfl rfl ?_
  refine z_istore_n (pc := 9) hR (lv' := [(3, 0, a2), (0, 2, 171), (1, 2, 14), (2, 0, a2)]) dX2_aimAt_9 rfl (by decide) rfl ?_
  refine z_iconst (pc := 10) hR dX2_aimAt_10 rfl ?_
  refine z_istore (pc := 11) hR (lv' := [(4, 0, 0), (3, 0, a2), (0, 2, 171), (1, 2, 14), (2, 0, a2)]) dX2_aimAt_11 (by decide) rfl ?_
  refine z_aload_n (pc := 13) hR 2 dX2_aimAt_13 rfl rfl ?_
  refine z_geti (pc := 14) hR (j := 7) jf_RX2_43 kxo_171 (by decide) rfl rfl dX2_aimAt_14 ?_
  refine z_iconst (pc := 17) hR dX2_aimAt_17 rfl ?_
  refine z_isub (pc := 18) hR dX2_aimAt_18 ?_
  refine z_let1 (fun v2 => ?_)
  refine z_istore (pc := 19) hR (lv' := [(5, 0, v2), (4, 0, 0), (3, 0, a2), (0, 2, 171), (1, 2, 14), (2, 0, a2)]) dX2_aimAt_19 (by decide) rfl ?_
  refine z_pick (pc := 21) (lv' := [(0, 2, 171), (1, 2, 14), (3, 0, a2), (4, 0, 0), (5, 0, v2)]) hR [3, 4, 2, 1, 0] rfl ?_
  refine z_fix (σ := Int × Int × Int × jMem) (lv := fun s => [(0, 2, 171), (1, 2, 14), (3, 0, s.1), (4, 0, s.2.1), (5, 0, s.2.2.1)]) (st := fun _ => []) (M := fun s => s.2.2.2) (fun h21 hh21 => ?_) N (a2, 0, v2, M1)
  rintro ⟨x3, x4, x5, M6⟩
  show jZ K id 21 [(0, 2, 171), (1, 2, 14), (3, 0, x3), (4, 0, x4), (5, 0, x5)] [] M6 _
  unfold Li_aimAt_L21
  refine z_iload (pc := 21) hR 4 dX2_aimAt_21 rfl ?_
  refine z_iflt (pc := 23) (tgt := 96) hR dX2_aimAt_23 (by decide) ?_ ?_
  · refine z_iload_n (pc := 96) hR 2 dX2_aimAt_96 rfl rfl ?_
    refine z_ifne (pc := 97) (tgt := 104) hR dX2_aimAt_97 (by decide) ?_ ?_
    · refine z_iconst (pc := 104) hR dX2_aimAt_104 rfl ?_
      exact z_zreturn (pc := 105) hR rfl rfl (Or.inl rfl) dX2_aimAt_105 rfl
    · refine z_iconst (pc := 100) hR dX2_aimAt_100 rfl ?_
      refine z_goto (pc := 101) (tgt := 105) hR dX2_aimAt_101 (by decide) ?_
      exact z_zreturn (pc := 105) hR rfl rfl (Or.inr rfl) dX2_aimAt_105 rfl
  · refine z_iload_n (pc := 26) hR 2 dX2_aimAt_26 rfl rfl ?_
    refine z_bipush (pc := 27) hR dX2_aimAt_27 rfl ?_
    refine z_irem (pc := 29) hR dX2_aimAt_29 (by decide) ?_
    refine z_iconst (pc := 30) hR dX2_aimAt_30 rfl ?_
    refine z_isub (pc := 31) hR dX2_aimAt_31 ?_
    refine z_let1 (fun v7 => ?_)
    refine z_istore (pc := 32) hR (lv' := [(6, 0, v7), (0, 2, 171), (1, 2, 14), (3, 0, x3), (4, 0, x4), (5, 0, x5)]) dX2_aimAt_32 (by decide) rfl ?_
    refine z_iload_n (pc := 34) hR 3 dX2_aimAt_34 rfl rfl ?_
    refine z_bipush (pc := 35) hR dX2_aimAt_35 rfl ?_
    refine z_idiv (pc := 37) hR dX2_aimAt_37 (by decide) ?_
    refine z_let1 (fun v8 => ?_)
    refine z_istore_n (pc := 38) hR (lv' := [(3, 0, v8), (6, 0, v7), (0, 2, 171), (1, 2, 14), (4, 0, x4), (5, 0, x5)]) dX2_aimAt_38 rfl (by decide) rfl ?_
    refine z_iload (pc := 39) hR 1 dX2_aimAt_39 rfl ?_
    refine z_iflt (pc := 41) (tgt := 63) hR dX2_aimAt_41 (by decide) ?_ ?_
    · refine z_iconst (pc := 63) hR dX2_aimAt_63 rfl ?_
      exact z_zreturn (pc := 64) hR rfl rfl (Or.inl rfl) dX2_aimAt_64 rfl
    · refine z_iload (pc := 44) hR 1 dX2_aimAt_44 rfl ?_
      refine z_aload_n (pc := 46) hR 2 dX2_aimAt_46 rfl rfl ?_
      refine z_geti (pc := 47) hR (j := 7) jf_RX2_43 kxo_171 (by decide) rfl rfl dX2_aimAt_47 ?_
      refine z_icmpge (pc := 50) (tgt := 63) hR dX2_aimAt_50 (by decide) ?_ ?_
      · refine z_iconst (pc := 63) hR dX2_aimAt_63 rfl ?_
        exact z_zreturn (pc := 64) hR rfl rfl (Or.inl rfl) dX2_aimAt_64 rfl
      · refine z_iload (pc := 53) hR 4 dX2_aimAt_53 rfl ?_
        refine z_iload (pc := 55) hR 1 dX2_aimAt_55 rfl ?_
        refine z_ishr (pc := 57) hR dX2_aimAt_57 ?_
        refine z_iconst (pc := 58) hR dX2_aimAt_58 rfl ?_
        refine z_iand (pc := 59) hR dX2_aimAt_59 ?_
        refine z_ifeq (pc := 60) (tgt := 65) hR dX2_aimAt_60 (by decide) ?_ ?_
        · refine z_iload (pc := 65) hR 4 dX2_aimAt_65 rfl ?_
          refine z_iconst (pc := 67) hR dX2_aimAt_67 rfl ?_
          refine z_iload (pc := 68) hR 1 dX2_aimAt_68 rfl ?_
          refine z_ishl (pc := 70) hR dX2_aimAt_70 ?_
          refine z_ior (pc := 71) hR dX2_aimAt_71 ?_
          refine z_let1 (fun v9 => ?_)
          refine z_istore (pc := 72) hR (lv' := [(4, 0, v9), (3, 0, v8), (6, 0, v7), (0, 2, 171), (1, 2, 14), (5, 0, x5)]) dX2_aimAt_72 (by decide) rfl ?_
          refine z_aload_n (pc := 74) hR 3 dX2_aimAt_74 rfl rfl ?_
          refine z_getr (pc := 75) hR (c0 := 5) (r := 176) jf_RX2_26 kxo_171 (by decide) rfl rfl dX2_aimAt_75 ?_
          refine z_iload (pc := 78) hR 5 dX2_aimAt_78 rfl ?_
          refine z_aload_n (pc := 80) hR 4 dX2_aimAt_80 rfl rfl ?_
          refine z_getr (pc := 81) hR (c0 := 7) (r := 21) jf_RX2_82 kxo_14 (by decide) rfl rfl dX2_aimAt_81 ?_
          refine z_iload (pc := 84) hR 2 dX2_aimAt_84 rfl ?_
          refine z_callvp (pc := 86) hR (As := [(0, v7)]) (st := [(0, x5), (2, 176)]) jm_X7_farmThatHas jl_RX2_86 kxo_21 (by decide) rfl (by decide) (c_St_farmThatHas N 21 v7 M6 kxo_21) rfl (by decide) (by decide) rfl (Nat.le_of_ble_eq_true rfl) dX2_aimAt_86 (fun r10 => ?_)
          refine z_chk (fun hc11 => ?_)
          refine z_iast (pc := 89) hR (n := 7) kxa_176 hc11.1 hc11.2 dX2_aimAt_89 (fun M12 => ?_)
          refine z_iinc (pc := 90) hR (j := 5) (lv' := [(5, 0, (w32 (x5 + (-1)))), (4, 0, v9), (3, 0, v8), (6, 0, v7), (0, 2, 171), (1, 2, 14)]) dX2_aimAt_90 rfl (by decide) rfl ?_
          refine z_goto (pc := 93) (tgt := 21) hR dX2_aimAt_93 (by decide) ?_
          refine z_pick (pc := 21) (lv' := [(0, 2, 171), (1, 2, 14), (3, 0, v8), (4, 0, v9), (5, 0, (w32 (x5 + (-1))))]) hR [4, 5, 2, 1, 0] rfl ?_
          exact hh21 (v8, v9, (w32 (x5 + (-1))), M12)
        · refine z_iconst (pc := 63) hR dX2_aimAt_63 rfl ?_
          exact z_zreturn (pc := 64) hR rfl rfl (Or.inl rfl) dX2_aimAt_64 rfl
theorem dX2_fewestLeft_0 : decode cX2_fewestLeft 0 = .ok (.aload_n 0, 1) := by decide +kernel
theorem dX2_fewestLeft_1 : decode cX2_fewestLeft 1 = .ok (.getfield 11, 3) := by decide +kernel
theorem dX2_fewestLeft_4 : decode cX2_fewestLeft 4 = .ok (.aload_n 0, 1) := by decide +kernel
theorem dX2_fewestLeft_5 : decode cX2_fewestLeft 5 = .ok (.aload_n 0, 1) := by decide +kernel
theorem dX2_fewestLeft_6 : decode cX2_fewestLeft 6 = .ok (.getfield 26, 3) := by decide +kernel
theorem dX2_fewestLeft_9 : decode cX2_fewestLeft 9 = .ok (.invokevirtual 62, 3) := by decide +kernel
theorem dX2_fewestLeft_12 : decode cX2_fewestLeft 12 = .ok (.baload, 1) := by decide +kernel
theorem dX2_fewestLeft_13 : decode cX2_fewestLeft 13 = .ok (.istore_n 1, 1) := by decide +kernel
theorem dX2_fewestLeft_14 : decode cX2_fewestLeft 14 = .ok (.iload_n 1, 1) := by decide +kernel
theorem dX2_fewestLeft_15 : decode cX2_fewestLeft 15 = .ok (.iconst (-1), 1) := by decide +kernel
theorem dX2_fewestLeft_16 : decode cX2_fewestLeft 16 = .ok (.if_icmp .ne 8, 3) := by decide +kernel
theorem dX2_fewestLeft_19 : decode cX2_fewestLeft 19 = .ok (.bipush (-2), 2) := by decide +kernel
theorem dX2_fewestLeft_21 : decode cX2_fewestLeft 21 = .ok (.goto 4, 3) := by decide +kernel
theorem dX2_fewestLeft_24 : decode cX2_fewestLeft 24 = .ok (.iload_n 1, 1) := by decide +kernel
theorem dX2_fewestLeft_25 : decode cX2_fewestLeft 25 = .ok (.ireturn, 1) := by decide +kernel
def Li_fewestLeft (N : Nat) (M : jMem) : Option Int := (Li_placeOf N 176 M).bind fun r1 => jchk (0 ≤ r1 ∧ r1 < 5040) <| jlt ((M 172 r1)) fun v3 => (if v3 = (-1) then some ((-2)) else some v3)
theorem c_Li_fewestLeft {l : Launch} {g : jG} (N : Nat) (M : jMem)  : ∀ o, Li_fewestLeft N  M = some o → jCt l g jTX yX2_fewestLeft cX2_fewestLeft 2 (some .int) 0 5 [(2, 171)] M (o, M) := by
  refine jMet (own := RX2) (em := (fun r => (r, M))) (L := [(0, 2, 171)]) (by decide +kernel) rfl (Nat.le_of_ble_eq_true rfl) rfl (fun K hR => ?_)
  unfold Li_fewestLeft
  refine z_aload_n (pc := 0) hR 0 dX2_fewestLeft_0 rfl rfl ?_
  refine z_getr (pc := 1) hR (c0 := 1) (r := 172) jf_RX2_11 kxo_171 (by decide) rfl rfl dX2_fewestLeft_1 ?_
  refine z_aload_n (pc := 4) hR 0 dX2_fewestLeft_4 rfl rfl ?_
  refine z_aload_n (pc := 5) hR 0 dX2_fewestLeft_5 rfl rfl ?_
  refine z_getr (pc := 6) hR (c0 := 5) (r := 176) jf_RX2_26 kxo_171 (by decide) rfl rfl dX2_fewestLeft_6 ?_
  refine z_callvp (pc := 9) hR (As := [(2, 176)]) (st := [(2, 172)]) jm_X2_placeOf jl_RX2_62 kxo_171 (by decide) rfl (by decide) (c_Li_placeOf N 176 M kxa_176) rfl (by decide) (by decide) rfl (Nat.le_of_ble_eq_true rfl) dX2_fewestLeft_9 (fun r1 => ?_)
  refine z_chk (fun hc2 => ?_)
  refine z_bald (pc := 12) hR (n := 5040) kxa_172 hc2.1 hc2.2 dX2_fewestLeft_12 ?_
  refine z_let1 (fun v3 => ?_)
  refine z_istore_n (pc := 13) hR (lv' := [(1, 0, v3), (0, 2, 171)]) dX2_fewestLeft_13 rfl (by decide) rfl ?_
  refine z_iload_n (pc := 14) hR 0 dX2_fewestLeft_14 rfl rfl ?_
  refine z_iconst (pc := 15) hR dX2_fewestLeft_15 rfl ?_
  refine z_icmpne (pc := 16) (tgt := 24) hR dX2_fewestLeft_16 (by decide) ?_ ?_
  · refine z_iload_n (pc := 24) hR 0 dX2_fewestLeft_24 rfl rfl ?_
    exact z_ireturn (pc := 25) hR rfl rfl dX2_fewestLeft_25 rfl
  · refine z_bipush (pc := 19) hR dX2_fewestLeft_19 rfl ?_
    refine z_goto (pc := 21) (tgt := 25) hR dX2_fewestLeft_21 (by decide) ?_
    exact z_ireturn (pc := 25) hR rfl rfl dX2_fewestLeft_25 rfl
theorem dX11_fewest_0 : decode cX11_fewest 0 = .ok (.aload_n 0, 1) := by decide +kernel
theorem dX11_fewest_1 : decode cX11_fewest 1 = .ok (.invokevirtual 177, 3) := by decide +kernel
theorem dX11_fewest_4 : decode cX11_fewest 4 = .ok (.ifCond .eq 18, 3) := by decide +kernel
theorem dX11_fewest_7 : decode cX11_fewest 7 = .ok (.aload_n 0, 1) := by decide +kernel
theorem dX11_fewest_8 : decode cX11_fewest 8 = .ok (.getfield 75, 3) := by decide +kernel
theorem dX11_fewest_11 : decode cX11_fewest 11 = .ok (.aload_n 0, 1) := by decide +kernel
theorem dX11_fewest_12 : decode cX11_fewest 12 = .ok (.getfield 43, 3) := by decide +kernel
theorem dX11_fewest_15 : decode cX11_fewest 15 = .ok (.iload_n 1, 1) := by decide +kernel
theorem dX11_fewest_16 : decode cX11_fewest 16 = .ok (.invokevirtual 246, 3) := by decide +kernel
theorem dX11_fewest_19 : decode cX11_fewest 19 = .ok (.ifCond .ne 5, 3) := by decide +kernel
theorem dX11_fewest_22 : decode cX11_fewest 22 = .ok (.iconst (-1), 1) := by decide +kernel
theorem dX11_fewest_23 : decode cX11_fewest 23 = .ok (.ireturn, 1) := by decide +kernel
theorem dX11_fewest_24 : decode cX11_fewest 24 = .ok (.aload_n 0, 1) := by decide +kernel
theorem dX11_fewest_25 : decode cX11_fewest 25 = .ok (.getfield 75, 3) := by decide +kernel
theorem dX11_fewest_28 : decode cX11_fewest 28 = .ok (.invokevirtual 250, 3) := by decide +kernel
theorem dX11_fewest_31 : decode cX11_fewest 31 = .ok (.ireturn, 1) := by decide +kernel
def x_fewest (N : Nat) (a1 : Int) (M : jMem) : Option (Int × jMem) := (x_hasParish N M).bind fun r1 => (if r1 = 0 then some ((-1), M) else jb1 (Li_aimAt N a1 M) fun r2 M3 => (if r2 = 0 then some ((-1), M3) else (Li_fewestLeft N M3).bind fun r4 => some (r4, M3)))
theorem c_x_fewest {l : Launch} {g : jG} (N : Nat) (a1 : Int) (M : jMem)  : ∀ o, x_fewest N a1 M = some o → jCt l g jTX yX11_fewest cX11_fewest 2 (some .int) 0 11 [(2, 0), (0, a1)] M o := by
  refine jMet (own := RX11) (em := id) (L := [(0, 2, 0), (1, 0, a1)]) (by decide +kernel) rfl (Nat.le_of_ble_eq_true rfl) rfl (fun K hR => ?_)
  unfold x_fewest
  refine z_aload_n (pc := 0) hR 0 dX11_fewest_0 rfl rfl ?_
  refine z_callvp (pc := 1) hR (As := []) (st := []) jm_X11_hasParish jl_RX11_177 kxo_0 (by decide) rfl (by decide) (c_x_hasParish N M) rfl (by decide) (by decide) rfl (Nat.le_of_ble_eq_true rfl) dX11_fewest_1 (fun r1 => ?_)
  refine z_ifeq (pc := 4) (tgt := 22) hR dX11_fewest_4 (by decide) ?_ ?_
  · refine z_iconst (pc := 22) hR dX11_fewest_22 rfl ?_
    exact z_ireturn (pc := 23) hR rfl rfl dX11_fewest_23 rfl
  · refine z_aload_n (pc := 7) hR 0 dX11_fewest_7 rfl rfl ?_
    refine z_getr (pc := 8) hR (c0 := 171) (r := 171) jf_RX11_75 kxo_0 (by decide) rfl rfl dX11_fewest_8 ?_
    refine z_aload_n (pc := 11) hR 0 dX11_fewest_11 rfl rfl ?_
    refine z_getr (pc := 12) hR (c0 := 14) (r := 14) jf_RX11_43 kxo_0 (by decide) rfl rfl dX11_fewest_12 ?_
    refine z_iload_n (pc := 15) hR 1 dX11_fewest_15 rfl rfl ?_
    refine z_callv1 (pc := 16) hR (As := [(2, 14), (0, a1)]) (st := []) jm_X2_aimAt jl_RX11_246 kxo_171 (by decide) rfl (by decide) (c_Li_aimAt N a1 M) rfl (by decide) (by decide) rfl (Nat.le_of_ble_eq_true rfl) dX11_fewest_16 (fun r2 M3 => ?_)
    refine z_ifne (pc := 19) (tgt := 24) hR dX11_fewest_19 (by decide) ?_ ?_
    · refine z_aload_n (pc := 24) hR 0 dX11_fewest_24 rfl rfl ?_
      refine z_getr (pc := 25) hR (c0 := 171) (r := 171) jf_RX11_75 kxo_0 (by decide) rfl rfl dX11_fewest_25 ?_
      refine z_callvp (pc := 28) hR (As := []) (st := []) jm_X2_fewestLeft jl_RX11_250 kxo_171 (by decide) rfl (by decide) (c_Li_fewestLeft N M3) rfl (by decide) (by decide) rfl (Nat.le_of_ble_eq_true rfl) dX11_fewest_28 (fun r4 => ?_)
      exact z_ireturn (pc := 31) hR rfl rfl dX11_fewest_31 rfl
    · refine z_iconst (pc := 22) hR dX11_fewest_22 rfl ?_
      exact z_ireturn (pc := 23) hR rfl rfl dX11_fewest_23 rfl
theorem dX2_swapNames_0 : decode cX2_swapNames 0 = .ok (.iconst 0, 1) := by decide +kernel
theorem dX2_swapNames_1 : decode cX2_swapNames 1 = .ok (.istore_n 3, 1) := by decide +kernel
theorem dX2_swapNames_2 : decode cX2_swapNames 2 = .ok (.iload_n 3, 1) := by decide +kernel
theorem dX2_swapNames_3 : decode cX2_swapNames 3 = .ok (.aload_n 0, 1) := by decide +kernel
theorem dX2_swapNames_4 : decode cX2_swapNames 4 = .ok (.getfield 43, 3) := by decide +kernel
theorem dX2_swapNames_7 : decode cX2_swapNames 7 = .ok (.if_icmp .ge 46, 3) := by decide +kernel
theorem dX2_swapNames_10 : decode cX2_swapNames 10 = .ok (.aload_n 0, 1) := by decide +kernel
theorem dX2_swapNames_11 : decode cX2_swapNames 11 = .ok (.getfield 26, 3) := by decide +kernel
theorem dX2_swapNames_14 : decode cX2_swapNames 14 = .ok (.iload_n 3, 1) := by decide +kernel
theorem dX2_swapNames_15 : decode cX2_swapNames 15 = .ok (.iaload, 1) := by decide +kernel
theorem dX2_swapNames_16 : decode cX2_swapNames 16 = .ok (.iload_n 1, 1) := by decide +kernel
theorem dX2_swapNames_17 : decode cX2_swapNames 17 = .ok (.if_icmp .ne 13, 3) := by decide +kernel
theorem dX2_swapNames_20 : decode cX2_swapNames 20 = .ok (.aload_n 0, 1) := by decide +kernel
theorem dX2_swapNames_21 : decode cX2_swapNames 21 = .ok (.getfield 26, 3) := by decide +kernel
theorem dX2_swapNames_24 : decode cX2_swapNames 24 = .ok (.iload_n 3, 1) := by decide +kernel
theorem dX2_swapNames_25 : decode cX2_swapNames 25 = .ok (.iload_n 2, 1) := by decide +kernel
theorem dX2_swapNames_26 : decode cX2_swapNames 26 = .ok (.iastore, 1) := by decide +kernel
theorem dX2_swapNames_27 : decode cX2_swapNames 27 = .ok (.goto 20, 3) := by decide +kernel
theorem dX2_swapNames_30 : decode cX2_swapNames 30 = .ok (.aload_n 0, 1) := by decide +kernel
theorem dX2_swapNames_31 : decode cX2_swapNames 31 = .ok (.getfield 26, 3) := by decide +kernel
theorem dX2_swapNames_34 : decode cX2_swapNames 34 = .ok (.iload_n 3, 1) := by decide +kernel
theorem dX2_swapNames_35 : decode cX2_swapNames 35 = .ok (.iaload, 1) := by decide +kernel
theorem dX2_swapNames_36 : decode cX2_swapNames 36 = .ok (.iload_n 2, 1) := by decide +kernel
theorem dX2_swapNames_37 : decode cX2_swapNames 37 = .ok (.if_icmp .ne 10, 3) := by decide +kernel
theorem dX2_swapNames_40 : decode cX2_swapNames 40 = .ok (.aload_n 0, 1) := by decide +kernel
theorem dX2_swapNames_41 : decode cX2_swapNames 41 = .ok (.getfield 26, 3) := by decide +kernel
theorem dX2_swapNames_44 : decode cX2_swapNames 44 = .ok (.iload_n 3, 1) := by decide +kernel
theorem dX2_swapNames_45 : decode cX2_swapNames 45 = .ok (.iload_n 1, 1) := by decide +kernel
theorem dX2_swapNames_46 : decode cX2_swapNames 46 = .ok (.iastore, 1) := by decide +kernel
theorem dX2_swapNames_47 : decode cX2_swapNames 47 = .ok (.iinc 3 1, 3) := by decide +kernel
theorem dX2_swapNames_50 : decode cX2_swapNames 50 = .ok (.goto (-48), 3) := by decide +kernel
theorem dX2_swapNames_53 : decode cX2_swapNames 53 = .ok (.return_, 1) := by decide +kernel
def Li_swapNames_L2 (N : Nat) (a1 : Int) (a2 : Int) (h2 : (Int × jMem) → Option (Int × jMem)) : Int × jMem → Option (Int × jMem)
  | (x1, M2) => (if x1 < (M2 171 7) then jchk (0 ≤ x1 ∧ x1 < 7) <| (if (M2 176 x1) = a1 then jchk (0 ≤ x1 ∧ x1 < 7) <| jlt (up M2 176 x1 a2) fun M8 => h2 ((w32 (x1 + 1)), M8) else jchk (0 ≤ x1 ∧ x1 < 7) <| (if (M2 176 x1) = a2 then jchk (0 ≤ x1 ∧ x1 < 7) <| jlt (up M2 176 x1 a1) fun M6 => h2 ((w32 (x1 + 1)), M6) else h2 ((w32 (x1 + 1)), M2))) else some (0, M2))
def Li_swapNames (N : Nat) (a1 a2 : Int) (M : jMem) : Option (Int × jMem) := jfix N (Li_swapNames_L2 N a1 a2) (0, M)
theorem c_Li_swapNames {l : Launch} {g : jG} (N : Nat) (a1 a2 : Int) (M : jMem)  : ∀ o, Li_swapNames N a1 a2 M = some o → jCt l g jTX yX2_swapNames cX2_swapNames 4 none 3 1 [(2, 171), (0, a1), (0, a2)] M o := by
  refine jMet (own := RX2) (em := id) (L := [(0, 2, 171), (1, 0, a1), (2, 0, a2)]) (by decide +kernel) rfl (Nat.le_of_ble_eq_true rfl) rfl (fun K hR => ?_)
  unfold Li_swapNames
  refine z_iconst (pc := 0) hR dX2_swapNames_0 rfl ?_
  refine z_istore_n (pc := 1) hR (lv' := [(3, 0, 0), (0, 2, 171), (1, 0, a1), (2, 0, a2)]) dX2_swapNames_1 rfl (by decide) rfl ?_
  refine z_pick (pc := 2) (lv' := [(0, 2, 171), (1, 0, a1), (2, 0, a2), (3, 0, 0)]) hR [1, 2, 3, 0] rfl ?_
  refine z_fix (σ := Int × jMem) (lv := fun s => [(0, 2, 171), (1, 0, a1), (2, 0, a2), (3, 0, s.1)]) (st := fun _ => []) (M := fun s => s.2) (fun h2 hh2 => ?_) N (0, M)
  rintro ⟨x1, M2⟩
  show jZ K id 2 [(0, 2, 171), (1, 0, a1), (2, 0, a2), (3, 0, x1)] [] M2 _
  unfold Li_swapNames_L2
  refine z_iload_n (pc := 2) hR 3 dX2_swapNames_2 rfl rfl ?_
  refine z_aload_n (pc := 3) hR 0 dX2_swapNames_3 rfl rfl ?_
  refine z_geti (pc := 4) hR (j := 7) jf_RX2_43 kxo_171 (by decide) rfl rfl dX2_swapNames_4 ?_
  refine z_icmpge (pc := 7) (tgt := 53) hR dX2_swapNames_7 (by decide) ?_ ?_
  · exact z_return (x := 0) (pc := 53) hR rfl rfl dX2_swapNames_53 rfl
  · refine z_aload_n (pc := 10) hR 0 dX2_swapNames_10 rfl rfl ?_
    refine z_getr (pc := 11) hR (c0 := 5) (r := 176) jf_RX2_26 kxo_171 (by decide) rfl rfl dX2_swapNames_11 ?_
    refine z_iload_n (pc := 14) hR 3 dX2_swapNames_14 rfl rfl ?_
    refine z_chk (fun hc3 => ?_)
    refine z_iald (pc := 15) hR (n := 7) kxa_176 hc3.1 hc3.2 dX2_swapNames_15 ?_
    refine z_iload_n (pc := 16) hR 1 dX2_swapNames_16 rfl rfl ?_
    refine z_icmpne (pc := 17) (tgt := 30) hR dX2_swapNames_17 (by decide) ?_ ?_
    · refine z_aload_n (pc := 30) hR 0 dX2_swapNames_30 rfl rfl ?_
      refine z_getr (pc := 31) hR (c0 := 5) (r := 176) jf_RX2_26 kxo_171 (by decide) rfl rfl dX2_swapNames_31 ?_
      refine z_iload_n (pc := 34) hR 3 dX2_swapNames_34 rfl rfl ?_
      refine z_chk (fun hc4 => ?_)
      refine z_iald (pc := 35) hR (n := 7) kxa_176 hc4.1 hc4.2 dX2_swapNames_35 ?_
      refine z_iload_n (pc := 36) hR 2 dX2_swapNames_36 rfl rfl ?_
      refine z_icmpne (pc := 37) (tgt := 47) hR dX2_swapNames_37 (by decide) ?_ ?_
      · refine z_iinc (pc := 47) hR (j := 3) (lv' := [(3, 0, (w32 (x1 + 1))), (0, 2, 171), (1, 0, a1), (2, 0, a2)]) dX2_swapNames_47 rfl (by decide) rfl ?_
        refine z_goto (pc := 50) (tgt := 2) hR dX2_swapNames_50 (by decide) ?_
        refine z_pick (pc := 2) (lv' := [(0, 2, 171), (1, 0, a1), (2, 0, a2), (3, 0, (w32 (x1 + 1)))]) hR [1, 2, 3, 0] rfl ?_
        exact hh2 ((w32 (x1 + 1)), M2)
      · refine z_aload_n (pc := 40) hR 0 dX2_swapNames_40 rfl rfl ?_
        refine z_getr (pc := 41) hR (c0 := 5) (r := 176) jf_RX2_26 kxo_171 (by decide) rfl rfl dX2_swapNames_41 ?_
        refine z_iload_n (pc := 44) hR 3 dX2_swapNames_44 rfl rfl ?_
        refine z_iload_n (pc := 45) hR 1 dX2_swapNames_45 rfl rfl ?_
        refine z_chk (fun hc5 => ?_)
        refine z_iast (pc := 46) hR (n := 7) kxa_176 hc5.1 hc5.2 dX2_swapNames_46 (fun M6 => ?_)
        refine z_iinc (pc := 47) hR (j := 3) (lv' := [(3, 0, (w32 (x1 + 1))), (0, 2, 171), (1, 0, a1), (2, 0, a2)]) dX2_swapNames_47 rfl (by decide) rfl ?_
        refine z_goto (pc := 50) (tgt := 2) hR dX2_swapNames_50 (by decide) ?_
        refine z_pick (pc := 2) (lv' := [(0, 2, 171), (1, 0, a1), (2, 0, a2), (3, 0, (w32 (x1 + 1)))]) hR [1, 2, 3, 0] rfl ?_
        exact hh2 ((w32 (x1 + 1)), M6)
    · refine z_aload_n (pc := 20) hR 0 dX2_swapNames_20 rfl rfl ?_
      refine z_getr (pc := 21) hR (c0 := 5) (r := 176) jf_RX2_26 kxo_171 (by decide) rfl rfl dX2_swapNames_21 ?_
      refine z_iload_n (pc := 24) hR 3 dX2_swapNames_24 rfl rfl ?_
      refine z_iload_n (pc := 25) hR 2 dX2_swapNames_25 rfl rfl ?_
      refine z_chk (fun hc7 => ?_)
      refine z_iast (pc := 26) hR (n := 7) kxa_176 hc7.1 hc7.2 dX2_swapNames_26 (fun M8 => ?_)
      refine z_goto (pc := 27) (tgt := 47) hR dX2_swapNames_27 (by decide) ?_
      refine z_iinc (pc := 47) hR (j := 3) (lv' := [(3, 0, (w32 (x1 + 1))), (0, 2, 171), (1, 0, a1), (2, 0, a2)]) dX2_swapNames_47 rfl (by decide) rfl ?_
      refine z_goto (pc := 50) (tgt := 2) hR dX2_swapNames_50 (by decide) ?_
      refine z_pick (pc := 2) (lv' := [(0, 2, 171), (1, 0, a1), (2, 0, a2), (3, 0, (w32 (x1 + 1)))]) hR [1, 2, 3, 0] rfl ?_
      exact hh2 ((w32 (x1 + 1)), M8)
theorem dX2_nextWedding_0 : decode cX2_nextWedding 0 = .ok (.iconst 0, 1) := by decide +kernel
theorem dX2_nextWedding_1 : decode cX2_nextWedding 1 = .ok (.istore_n 3, 1) := by decide +kernel
theorem dX2_nextWedding_2 : decode cX2_nextWedding 2 = .ok (.iload_n 3, 1) := by decide +kernel
theorem dX2_nextWedding_3 : decode cX2_nextWedding 3 = .ok (.aload_n 0, 1) := by decide +kernel
theorem dX2_nextWedding_4 : decode cX2_nextWedding 4 = .ok (.getfield 43, 3) := by decide +kernel
theorem dX2_nextWedding_7 : decode cX2_nextWedding 7 = .ok (.if_icmp .ge 72, 3) := by decide +kernel
theorem dX2_nextWedding_10 : decode cX2_nextWedding 10 = .ok (.iload_n 3, 1) := by decide +kernel
theorem dX2_nextWedding_11 : decode cX2_nextWedding 11 = .ok (.iconst 1, 1) := by decide +kernel
theorem dX2_nextWedding_12 : decode cX2_nextWedding 12 = .ok (.iadd, 1) := by decide +kernel
theorem dX2_nextWedding_13 : decode cX2_nextWedding 13 = .ok (.istore 4, 2) := by decide +kernel
theorem dX2_nextWedding_15 : decode cX2_nextWedding 15 = .ok (.iload 4, 2) := by decide +kernel
theorem dX2_nextWedding_17 : decode cX2_nextWedding 17 = .ok (.aload_n 0, 1) := by decide +kernel
theorem dX2_nextWedding_18 : decode cX2_nextWedding 18 = .ok (.getfield 43, 3) := by decide +kernel
theorem dX2_nextWedding_21 : decode cX2_nextWedding 21 = .ok (.if_icmp .ge 52, 3) := by decide +kernel
theorem dX2_nextWedding_24 : decode cX2_nextWedding 24 = .ok (.aload_n 1, 1) := by decide +kernel
theorem dX2_nextWedding_25 : decode cX2_nextWedding 25 = .ok (.iload_n 3, 1) := by decide +kernel
theorem dX2_nextWedding_26 : decode cX2_nextWedding 26 = .ok (.iload 4, 2) := by decide +kernel
theorem dX2_nextWedding_28 : decode cX2_nextWedding 28 = .ok (.invokevirtual 35, 3) := by decide +kernel
theorem dX2_nextWedding_31 : decode cX2_nextWedding 31 = .ok (.ifCond .ne 6, 3) := by decide +kernel
theorem dX2_nextWedding_34 : decode cX2_nextWedding 34 = .ok (.goto 33, 3) := by decide +kernel
theorem dX2_nextWedding_37 : decode cX2_nextWedding 37 = .ok (.aload_n 0, 1) := by decide +kernel
theorem dX2_nextWedding_38 : decode cX2_nextWedding 38 = .ok (.iload_n 3, 1) := by decide +kernel
theorem dX2_nextWedding_39 : decode cX2_nextWedding 39 = .ok (.iload 4, 2) := by decide +kernel
theorem dX2_nextWedding_41 : decode cX2_nextWedding 41 = .ok (.invokevirtual 99, 3) := by decide +kernel
theorem dX2_nextWedding_44 : decode cX2_nextWedding 44 = .ok (.aload_n 0, 1) := by decide +kernel
theorem dX2_nextWedding_45 : decode cX2_nextWedding 45 = .ok (.invokevirtual 91, 3) := by decide +kernel
theorem dX2_nextWedding_48 : decode cX2_nextWedding 48 = .ok (.iload_n 2, 1) := by decide +kernel
theorem dX2_nextWedding_49 : decode cX2_nextWedding 49 = .ok (.if_icmp .ne 11, 3) := by decide +kernel
theorem dX2_nextWedding_52 : decode cX2_nextWedding 52 = .ok (.bipush 8, 2) := by decide +kernel
theorem dX2_nextWedding_54 : decode cX2_nextWedding 54 = .ok (.iload_n 3, 1) := by decide +kernel
theorem dX2_nextWedding_55 : decode cX2_nextWedding 55 = .ok (.imul, 1) := by decide +kernel
theorem dX2_nextWedding_56 : decode cX2_nextWedding 56 = .ok (.iload 4, 2) := by decide +kernel
theorem dX2_nextWedding_58 : decode cX2_nextWedding 58 = .ok (.iadd, 1) := by decide +kernel
theorem dX2_nextWedding_59 : decode cX2_nextWedding 59 = .ok (.ireturn, 1) := by decide +kernel
theorem dX2_nextWedding_60 : decode cX2_nextWedding 60 = .ok (.aload_n 0, 1) := by decide +kernel
theorem dX2_nextWedding_61 : decode cX2_nextWedding 61 = .ok (.iload_n 3, 1) := by decide +kernel
theorem dX2_nextWedding_62 : decode cX2_nextWedding 62 = .ok (.iload 4, 2) := by decide +kernel
theorem dX2_nextWedding_64 : decode cX2_nextWedding 64 = .ok (.invokevirtual 99, 3) := by decide +kernel
theorem dX2_nextWedding_67 : decode cX2_nextWedding 67 = .ok (.iinc 4 1, 3) := by decide +kernel
theorem dX2_nextWedding_70 : decode cX2_nextWedding 70 = .ok (.goto (-55), 3) := by decide +kernel
theorem dX2_nextWedding_73 : decode cX2_nextWedding 73 = .ok (.iinc 3 1, 3) := by decide +kernel
theorem dX2_nextWedding_76 : decode cX2_nextWedding 76 = .ok (.goto (-74), 3) := by decide +kernel
theorem dX2_nextWedding_79 : decode cX2_nextWedding 79 = .ok (.bipush (-2), 2) := by decide +kernel
theorem dX2_nextWedding_81 : decode cX2_nextWedding 81 = .ok (.ireturn, 1) := by decide +kernel
def Li_nextWedding_L15 (N : Nat) (a2 : Int) (x1 : Int) (h2 : (Int × jMem) → Option (Int × jMem)) (h15 : (Int × jMem) → Option (Int × jMem)) : Int × jMem → Option (Int × jMem)
  | (x4, M5) => (if x4 < (M5 171 7) then (Pa_areKin N 15 x1 x4 M5).bind fun r6 => (if r6 = 0 then h15 ((w32 (x4 + 1)), M5) else jbv (Li_swapNames N x1 x4 M5) fun M7 => (Li_fewestLeft N M7).bind fun r8 => (if r8 = a2 then some ((w32 (((w32 (8 * x1))) + x4)), M7) else jbv (Li_swapNames N x1 x4 M7) fun M9 => h15 ((w32 (x4 + 1)), M9))) else h2 ((w32 (x1 + 1)), M5))
def Li_nextWedding_L2 (N : Nat) (a2 : Int) (h2 : (Int × jMem) → Option (Int × jMem)) : Int × jMem → Option (Int × jMem)
  | (x1, M2) => (if x1 < (M2 171 7) then jlt ((w32 (x1 + 1))) fun v3 => jfix N (Li_nextWedding_L15 N a2 x1 h2) (v3, M2) else some ((-2), M2))
def Li_nextWedding (N : Nat) (a2 : Int) (M : jMem) : Option (Int × jMem) := jfix N (Li_nextWedding_L2 N a2) (0, M)
theorem c_Li_nextWedding {l : Launch} {g : jG} (N : Nat) (a2 : Int) (M : jMem)  : ∀ o, Li_nextWedding N a2 M = some o → jCt l g jTX yX2_nextWedding cX2_nextWedding 5 (some .int) 0 7 [(2, 171), (2, 15), (0, a2)] M o := by
  refine jMet (own := RX2) (em := id) (L := [(0, 2, 171), (1, 2, 15), (2, 0, a2)]) (by decide +kernel) rfl (Nat.le_of_ble_eq_true rfl) rfl (fun K hR => ?_)
  unfold Li_nextWedding
  refine z_iconst (pc := 0) hR dX2_nextWedding_0 rfl ?_
  refine z_istore_n (pc := 1) hR (lv' := [(3, 0, 0), (0, 2, 171), (1, 2, 15), (2, 0, a2)]) dX2_nextWedding_1 rfl (by decide) rfl ?_
  refine z_pick (pc := 2) (lv' := [(0, 2, 171), (1, 2, 15), (2, 0, a2), (3, 0, 0)]) hR [1, 2, 3, 0] rfl ?_
  refine z_fix (σ := Int × jMem) (lv := fun s => [(0, 2, 171), (1, 2, 15), (2, 0, a2), (3, 0, s.1)]) (st := fun _ => []) (M := fun s => s.2) (fun h2 hh2 => ?_) N (0, M)
  rintro ⟨x1, M2⟩
  show jZ K id 2 [(0, 2, 171), (1, 2, 15), (2, 0, a2), (3, 0, x1)] [] M2 _
  unfold Li_nextWedding_L2
  refine z_iload_n (pc := 2) hR 3 dX2_nextWedding_2 rfl rfl ?_
  refine z_aload_n (pc := 3) hR 0 dX2_nextWedding_3 rfl rfl ?_
  refine z_geti (pc := 4) hR (j := 7) jf_RX2_43 kxo_171 (by decide) rfl rfl dX2_nextWedding_4 ?_
  refine z_icmpge (pc := 7) (tgt := 79) hR dX2_nextWedding_7 (by decide) ?_ ?_
  · refine z_bipush (pc := 79) hR dX2_nextWedding_79 rfl ?_
    exact z_ireturn (pc := 81) hR rfl rfl dX2_nextWedding_81 rfl
  · refine z_iload_n (pc := 10) hR 3 dX2_nextWedding_10 rfl rfl ?_
    refine z_iconst (pc := 11) hR dX2_nextWedding_11 rfl ?_
    refine z_iadd (pc := 12) hR dX2_nextWedding_12 ?_
    refine z_let1 (fun v3 => ?_)
    refine z_istore (pc := 13) hR (lv' := [(4, 0, v3), (0, 2, 171), (1, 2, 15), (2, 0, a2), (3, 0, x1)]) dX2_nextWedding_13 (by decide) rfl ?_
    refine z_pick (pc := 15) (lv' := [(0, 2, 171), (1, 2, 15), (2, 0, a2), (3, 0, x1), (4, 0, v3)]) hR [1, 2, 3, 4, 0] rfl ?_
    refine z_fix (σ := Int × jMem) (lv := fun s => [(0, 2, 171), (1, 2, 15), (2, 0, a2), (3, 0, x1), (4, 0, s.1)]) (st := fun _ => []) (M := fun s => s.2) (fun h15 hh15 => ?_) N (v3, M2)
    rintro ⟨x4, M5⟩
    show jZ K id 15 [(0, 2, 171), (1, 2, 15), (2, 0, a2), (3, 0, x1), (4, 0, x4)] [] M5 _
    unfold Li_nextWedding_L15
    refine z_iload (pc := 15) hR 4 dX2_nextWedding_15 rfl ?_
    refine z_aload_n (pc := 17) hR 0 dX2_nextWedding_17 rfl rfl ?_
    refine z_geti (pc := 18) hR (j := 7) jf_RX2_43 kxo_171 (by decide) rfl rfl dX2_nextWedding_18 ?_
    refine z_icmpge (pc := 21) (tgt := 73) hR dX2_nextWedding_21 (by decide) ?_ ?_
    · refine z_iinc (pc := 73) hR (j := 3) (lv' := [(3, 0, (w32 (x1 + 1))), (0, 2, 171), (1, 2, 15), (2, 0, a2), (4, 0, x4)]) dX2_nextWedding_73 rfl (by decide) rfl ?_
      refine z_goto (pc := 76) (tgt := 2) hR dX2_nextWedding_76 (by decide) ?_
      refine z_pick (pc := 2) (lv' := [(0, 2, 171), (1, 2, 15), (2, 0, a2), (3, 0, (w32 (x1 + 1)))]) hR [1, 2, 3, 0] rfl ?_
      exact hh2 ((w32 (x1 + 1)), M5)
    · refine z_aload_n (pc := 24) hR 1 dX2_nextWedding_24 rfl rfl ?_
      refine z_iload_n (pc := 25) hR 3 dX2_nextWedding_25 rfl rfl ?_
      refine z_iload (pc := 26) hR 4 dX2_nextWedding_26 rfl ?_
      refine z_callvp (pc := 28) hR (As := [(0, x1), (0, x4)]) (st := []) jm_X4_areKin jl_RX2_35 kxo_15 (by decide) rfl (by decide) (c_Pa_areKin N 15 x1 x4 M5 kxo_15) rfl (by decide) (by decide) rfl (Nat.le_of_ble_eq_true rfl) dX2_nextWedding_28 (fun r6 => ?_)
      refine z_ifne (pc := 31) (tgt := 37) hR dX2_nextWedding_31 (by decide) ?_ ?_
      · refine z_aload_n (pc := 37) hR 0 dX2_nextWedding_37 rfl rfl ?_
        refine z_iload_n (pc := 38) hR 3 dX2_nextWedding_38 rfl rfl ?_
        refine z_iload (pc := 39) hR 4 dX2_nextWedding_39 rfl ?_
        refine z_callv0 (pc := 41) (rk' := 3) hR (As := [(0, x1), (0, x4)]) (st := []) jm_X2_swapNames jl_RX2_99 kxo_171 (by decide) rfl (c_Li_swapNames N x1 x4 M5) rfl (by decide) (by decide) rfl (Nat.le_of_ble_eq_true rfl) dX2_nextWedding_41 (fun M7 => ?_)
        refine z_aload_n (pc := 44) hR 0 dX2_nextWedding_44 rfl rfl ?_
        refine z_callvp (pc := 45) hR (As := []) (st := []) jm_X2_fewestLeft jl_RX2_91 kxo_171 (by decide) rfl (by decide) (c_Li_fewestLeft N M7) rfl (by decide) (by decide) rfl (Nat.le_of_ble_eq_true rfl) dX2_nextWedding_45 (fun r8 => ?_)
        refine z_iload_n (pc := 48) hR 2 dX2_nextWedding_48 rfl rfl ?_
        refine z_icmpne (pc := 49) (tgt := 60) hR dX2_nextWedding_49 (by decide) ?_ ?_
        · refine z_aload_n (pc := 60) hR 0 dX2_nextWedding_60 rfl rfl ?_
          refine z_iload_n (pc := 61) hR 3 dX2_nextWedding_61 rfl rfl ?_
          refine z_iload (pc := 62) hR 4 dX2_nextWedding_62 rfl ?_
          refine z_callv0 (pc := 64) (rk' := 3) hR (As := [(0, x1), (0, x4)]) (st := []) jm_X2_swapNames jl_RX2_99 kxo_171 (by decide) rfl (c_Li_swapNames N x1 x4 M7) rfl (by decide) (by decide) rfl (Nat.le_of_ble_eq_true rfl) dX2_nextWedding_64 (fun M9 => ?_)
          refine z_iinc (pc := 67) hR (j := 4) (lv' := [(4, 0, (w32 (x4 + 1))), (0, 2, 171), (1, 2, 15), (2, 0, a2), (3, 0, x1)]) dX2_nextWedding_67 rfl (by decide) rfl ?_
          refine z_goto (pc := 70) (tgt := 15) hR dX2_nextWedding_70 (by decide) ?_
          refine z_pick (pc := 15) (lv' := [(0, 2, 171), (1, 2, 15), (2, 0, a2), (3, 0, x1), (4, 0, (w32 (x4 + 1)))]) hR [1, 2, 3, 4, 0] rfl ?_
          exact hh15 ((w32 (x4 + 1)), M9)
        · refine z_bipush (pc := 52) hR dX2_nextWedding_52 rfl ?_
          refine z_iload_n (pc := 54) hR 3 dX2_nextWedding_54 rfl rfl ?_
          refine z_imul (pc := 55) hR dX2_nextWedding_55 ?_
          refine z_iload (pc := 56) hR 4 dX2_nextWedding_56 rfl ?_
          refine z_iadd (pc := 58) hR dX2_nextWedding_58 ?_
          exact z_ireturn (pc := 59) hR rfl rfl dX2_nextWedding_59 rfl
      · refine z_goto (pc := 34) (tgt := 67) hR dX2_nextWedding_34 (by decide) ?_
        refine z_iinc (pc := 67) hR (j := 4) (lv' := [(4, 0, (w32 (x4 + 1))), (0, 2, 171), (1, 2, 15), (2, 0, a2), (3, 0, x1)]) dX2_nextWedding_67 rfl (by decide) rfl ?_
        refine z_goto (pc := 70) (tgt := 15) hR dX2_nextWedding_70 (by decide) ?_
        refine z_pick (pc := 15) (lv' := [(0, 2, 171), (1, 2, 15), (2, 0, a2), (3, 0, x1), (4, 0, (w32 (x4 + 1)))]) hR [1, 2, 3, 4, 0] rfl ?_
        exact hh15 ((w32 (x4 + 1)), M5)
theorem dX2_wedding_0 : decode cX2_wedding 0 = .ok (.aload_n 0, 1) := by decide +kernel
theorem dX2_wedding_1 : decode cX2_wedding 1 = .ok (.invokevirtual 91, 3) := by decide +kernel
theorem dX2_wedding_4 : decode cX2_wedding 4 = .ok (.istore_n 3, 1) := by decide +kernel
theorem dX2_wedding_5 : decode cX2_wedding 5 = .ok (.iload_n 2, 1) := by decide +kernel
theorem dX2_wedding_6 : decode cX2_wedding 6 = .ok (.iload_n 3, 1) := by decide +kernel
theorem dX2_wedding_7 : decode cX2_wedding 7 = .ok (.if_icmp .lt 6, 3) := by decide +kernel
theorem dX2_wedding_10 : decode cX2_wedding 10 = .ok (.bipush (-2), 2) := by decide +kernel
theorem dX2_wedding_12 : decode cX2_wedding 12 = .ok (.ireturn, 1) := by decide +kernel
theorem dX2_wedding_13 : decode cX2_wedding 13 = .ok (.bipush (-2), 2) := by decide +kernel
theorem dX2_wedding_15 : decode cX2_wedding 15 = .ok (.istore 4, 2) := by decide +kernel
theorem dX2_wedding_17 : decode cX2_wedding 17 = .ok (.iconst 0, 1) := by decide +kernel
theorem dX2_wedding_18 : decode cX2_wedding 18 = .ok (.istore 5, 2) := by decide +kernel
theorem dX2_wedding_20 : decode cX2_wedding 20 = .ok (.iload 5, 2) := by decide +kernel
theorem dX2_wedding_22 : decode cX2_wedding 22 = .ok (.iload_n 2, 1) := by decide +kernel
theorem dX2_wedding_23 : decode cX2_wedding 23 = .ok (.if_icmp .gt 22, 3) := by decide +kernel
theorem dX2_wedding_26 : decode cX2_wedding 26 = .ok (.aload_n 0, 1) := by decide +kernel
theorem dX2_wedding_27 : decode cX2_wedding 27 = .ok (.aload_n 1, 1) := by decide +kernel
theorem dX2_wedding_28 : decode cX2_wedding 28 = .ok (.iload_n 3, 1) := by decide +kernel
theorem dX2_wedding_29 : decode cX2_wedding 29 = .ok (.iload 5, 2) := by decide +kernel
theorem dX2_wedding_31 : decode cX2_wedding 31 = .ok (.isub, 1) := by decide +kernel
theorem dX2_wedding_32 : decode cX2_wedding 32 = .ok (.iconst 1, 1) := by decide +kernel
theorem dX2_wedding_33 : decode cX2_wedding 33 = .ok (.isub, 1) := by decide +kernel
theorem dX2_wedding_34 : decode cX2_wedding 34 = .ok (.invokevirtual 95, 3) := by decide +kernel
theorem dX2_wedding_37 : decode cX2_wedding 37 = .ok (.istore 4, 2) := by decide +kernel
theorem dX2_wedding_39 : decode cX2_wedding 39 = .ok (.iinc 5 1, 3) := by decide +kernel
theorem dX2_wedding_42 : decode cX2_wedding 42 = .ok (.goto (-22), 3) := by decide +kernel
theorem dX2_wedding_45 : decode cX2_wedding 45 = .ok (.iload 4, 2) := by decide +kernel
theorem dX2_wedding_47 : decode cX2_wedding 47 = .ok (.ireturn, 1) := by decide +kernel
def Li_wedding_L20 (N : Nat) (a2 : Int) (r1 : Int) (h20 : (Int × Int × jMem) → Option (Int × jMem)) : Int × Int × jMem → Option (Int × jMem)
  | (x2, x3, M4) => (if a2 < x3 then some (x2, M4) else jb1 (Li_nextWedding N ((w32 (((w32 (r1 - x3))) - 1))) M4) fun r5 M6 => h20 (r5, (w32 (x3 + 1)), M6))
def Li_wedding (N : Nat) (a2 : Int) (M : jMem) : Option (Int × jMem) := (Li_fewestLeft N M).bind fun r1 => (if a2 < r1 then jfix N (Li_wedding_L20 N a2 r1) ((-2), 0, M) else some ((-2), M))
theorem c_Li_wedding {l : Launch} {g : jG} (N : Nat) (a2 : Int) (M : jMem)  : ∀ o, Li_wedding N a2 M = some o → jCt l g jTX yX2_wedding cX2_wedding 6 (some .int) 0 9 [(2, 171), (2, 15), (0, a2)] M o := by
  refine jMet (own := RX2) (em := id) (L := [(0, 2, 171), (1, 2, 15), (2, 0, a2)]) (by decide +kernel) rfl (Nat.le_of_ble_eq_true rfl) rfl (fun K hR => ?_)
  unfold Li_wedding
  refine z_aload_n (pc := 0) hR 0 dX2_wedding_0 rfl rfl ?_
  refine z_callvp (pc := 1) hR (As := []) (st := []) jm_X2_fewestLeft jl_RX2_91 kxo_171 (by decide) rfl (by decide) (c_Li_fewestLeft N M) rfl (by decide) (by decide) rfl (Nat.le_of_ble_eq_true rfl) dX2_wedding_1 (fun r1 => ?_)
  refine z_istore_n (pc := 4) hR (lv' := [(3, 0, r1), (0, 2, 171), (1, 2, 15), (2, 0, a2)]) dX2_wedding_4 rfl (by decide) rfl ?_
  refine z_iload_n (pc := 5) hR 3 dX2_wedding_5 rfl rfl ?_
  refine z_iload_n (pc := 6) hR 0 dX2_wedding_6 rfl rfl ?_
  refine z_icmplt (pc := 7) (tgt := 13) hR dX2_wedding_7 (by decide) ?_ ?_
  · refine z_bipush (pc := 13) hR dX2_wedding_13 rfl ?_
    refine z_istore (pc := 15) hR (lv' := [(4, 0, (-2)), (3, 0, r1), (0, 2, 171), (1, 2, 15), (2, 0, a2)]) dX2_wedding_15 (by decide) rfl ?_
    refine z_iconst (pc := 17) hR dX2_wedding_17 rfl ?_
    refine z_istore (pc := 18) hR (lv' := [(5, 0, 0), (4, 0, (-2)), (3, 0, r1), (0, 2, 171), (1, 2, 15), (2, 0, a2)]) dX2_wedding_18 (by decide) rfl ?_
    refine z_pick (pc := 20) (lv' := [(0, 2, 171), (1, 2, 15), (2, 0, a2), (3, 0, r1), (4, 0, (-2)), (5, 0, 0)]) hR [3, 4, 5, 2, 1, 0] rfl ?_
    refine z_fix (σ := Int × Int × jMem) (lv := fun s => [(0, 2, 171), (1, 2, 15), (2, 0, a2), (3, 0, r1), (4, 0, s.1), (5, 0, s.2.1)]) (st := fun _ => []) (M := fun s => s.2.2) (fun h20 hh20 => ?_) N ((-2), 0, M)
    rintro ⟨x2, x3, M4⟩
    show jZ K id 20 [(0, 2, 171), (1, 2, 15), (2, 0, a2), (3, 0, r1), (4, 0, x2), (5, 0, x3)] [] M4 _
    unfold Li_wedding_L20
    refine z_iload (pc := 20) hR 5 dX2_wedding_20 rfl ?_
    refine z_iload_n (pc := 22) hR 2 dX2_wedding_22 rfl rfl ?_
    refine z_icmpgt (pc := 23) (tgt := 45) hR dX2_wedding_23 (by decide) ?_ ?_
    · refine z_iload (pc := 45) hR 4 dX2_wedding_45 rfl ?_
      exact z_ireturn (pc := 47) hR rfl rfl dX2_wedding_47 rfl
    · refine z_aload_n (pc := 26) hR 0 dX2_wedding_26 rfl rfl ?_
      refine z_aload_n (pc := 27) hR 1 dX2_wedding_27 rfl rfl ?_
      refine z_iload_n (pc := 28) hR 3 dX2_wedding_28 rfl rfl ?_
      refine z_iload (pc := 29) hR 5 dX2_wedding_29 rfl ?_
      refine z_isub (pc := 31) hR dX2_wedding_31 ?_
      refine z_iconst (pc := 32) hR dX2_wedding_32 rfl ?_
      refine z_isub (pc := 33) hR dX2_wedding_33 ?_
      refine z_callv1 (pc := 34) hR (As := [(2, 15), (0, (w32 (((w32 (r1 - x3))) - 1)))]) (st := []) jm_X2_nextWedding jl_RX2_95 kxo_171 (by decide) rfl (by decide) (c_Li_nextWedding N ((w32 (((w32 (r1 - x3))) - 1))) M4) rfl (by decide) (by decide) rfl (Nat.le_of_ble_eq_true rfl) dX2_wedding_34 (fun r5 M6 => ?_)
      refine z_istore (pc := 37) hR (lv' := [(4, 0, r5), (0, 2, 171), (1, 2, 15), (2, 0, a2), (3, 0, r1), (5, 0, x3)]) dX2_wedding_37 (by decide) rfl ?_
      refine z_iinc (pc := 39) hR (j := 5) (lv' := [(5, 0, (w32 (x3 + 1))), (4, 0, r5), (0, 2, 171), (1, 2, 15), (2, 0, a2), (3, 0, r1)]) dX2_wedding_39 rfl (by decide) rfl ?_
      refine z_goto (pc := 42) (tgt := 20) hR dX2_wedding_42 (by decide) ?_
      refine z_pick (pc := 20) (lv' := [(0, 2, 171), (1, 2, 15), (2, 0, a2), (3, 0, r1), (4, 0, r5), (5, 0, (w32 (x3 + 1)))]) hR [2, 3, 4, 5, 1, 0] rfl ?_
      exact hh20 (r5, (w32 (x3 + 1)), M6)
  · refine z_bipush (pc := 10) hR dX2_wedding_10 rfl ?_
    exact z_ireturn (pc := 12) hR rfl rfl dX2_wedding_12 rfl
theorem dX11_step_0 : decode cX11_step 0 = .ok (.iload_n 2, 1) := by decide +kernel
theorem dX11_step_1 : decode cX11_step 1 = .ok (.ifCond .lt 34, 3) := by decide +kernel
theorem dX11_step_4 : decode cX11_step 4 = .ok (.iload_n 3, 1) := by decide +kernel
theorem dX11_step_5 : decode cX11_step 5 = .ok (.iconst 0, 1) := by decide +kernel
theorem dX11_step_6 : decode cX11_step 6 = .ok (.iconst 1, 1) := by decide +kernel
theorem dX11_step_7 : decode cX11_step 7 = .ok (.invokestatic 137, 3) := by decide +kernel
theorem dX11_step_10 : decode cX11_step 10 = .ok (.ifCond .eq 25, 3) := by decide +kernel
theorem dX11_step_13 : decode cX11_step 13 = .ok (.aload_n 0, 1) := by decide +kernel
theorem dX11_step_14 : decode cX11_step 14 = .ok (.invokevirtual 177, 3) := by decide +kernel
theorem dX11_step_17 : decode cX11_step 17 = .ok (.ifCond .eq 18, 3) := by decide +kernel
theorem dX11_step_20 : decode cX11_step 20 = .ok (.aload_n 0, 1) := by decide +kernel
theorem dX11_step_21 : decode cX11_step 21 = .ok (.getfield 75, 3) := by decide +kernel
theorem dX11_step_24 : decode cX11_step 24 = .ok (.aload_n 0, 1) := by decide +kernel
theorem dX11_step_25 : decode cX11_step 25 = .ok (.getfield 43, 3) := by decide +kernel
theorem dX11_step_28 : decode cX11_step 28 = .ok (.iload_n 1, 1) := by decide +kernel
theorem dX11_step_29 : decode cX11_step 29 = .ok (.invokevirtual 246, 3) := by decide +kernel
theorem dX11_step_32 : decode cX11_step 32 = .ok (.ifCond .ne 5, 3) := by decide +kernel
theorem dX11_step_35 : decode cX11_step 35 = .ok (.iconst (-1), 1) := by decide +kernel
theorem dX11_step_36 : decode cX11_step 36 = .ok (.ireturn, 1) := by decide +kernel
theorem dX11_step_37 : decode cX11_step 37 = .ok (.aload_n 0, 1) := by decide +kernel
theorem dX11_step_38 : decode cX11_step 38 = .ok (.getfield 75, 3) := by decide +kernel
theorem dX11_step_41 : decode cX11_step 41 = .ok (.aload_n 0, 1) := by decide +kernel
theorem dX11_step_42 : decode cX11_step 42 = .ok (.getfield 43, 3) := by decide +kernel
theorem dX11_step_45 : decode cX11_step 45 = .ok (.getfield 95, 3) := by decide +kernel
theorem dX11_step_48 : decode cX11_step 48 = .ok (.iload_n 2, 1) := by decide +kernel
theorem dX11_step_49 : decode cX11_step 49 = .ok (.invokevirtual 253, 3) := by decide +kernel
theorem dX11_step_52 : decode cX11_step 52 = .ok (.istore 4, 2) := by decide +kernel
theorem dX11_step_54 : decode cX11_step 54 = .ok (.iload 4, 2) := by decide +kernel
theorem dX11_step_56 : decode cX11_step 56 = .ok (.ifCond .ge 6, 3) := by decide +kernel
theorem dX11_step_59 : decode cX11_step 59 = .ok (.bipush (-2), 2) := by decide +kernel
theorem dX11_step_61 : decode cX11_step 61 = .ok (.ireturn, 1) := by decide +kernel
theorem dX11_step_62 : decode cX11_step 62 = .ok (.iload_n 3, 1) := by decide +kernel
theorem dX11_step_63 : decode cX11_step 63 = .ok (.ifCond .ne 11, 3) := by decide +kernel
theorem dX11_step_66 : decode cX11_step 66 = .ok (.iload 4, 2) := by decide +kernel
theorem dX11_step_68 : decode cX11_step 68 = .ok (.bipush 8, 2) := by decide +kernel
theorem dX11_step_70 : decode cX11_step 70 = .ok (.idiv, 1) := by decide +kernel
theorem dX11_step_71 : decode cX11_step 71 = .ok (.goto 8, 3) := by decide +kernel
theorem dX11_step_74 : decode cX11_step 74 = .ok (.iload 4, 2) := by decide +kernel
theorem dX11_step_76 : decode cX11_step 76 = .ok (.bipush 8, 2) := by decide +kernel
theorem dX11_step_78 : decode cX11_step 78 = .ok (.irem, 1) := by decide +kernel
theorem dX11_step_79 : decode cX11_step 79 = .ok (.ireturn, 1) := by decide +kernel
def x_step (N : Nat) (a1 a2 a3 : Int) (M : jMem) : Option (Int × jMem) := (if a2 < 0 then some ((-1), M) else (x_isWithin N a3 0 1 M).bind fun r1 => (if r1 = 0 then some ((-1), M) else (x_hasParish N M).bind fun r2 => (if r2 = 0 then some ((-1), M) else jb1 (Li_aimAt N a1 M) fun r3 M4 => (if r3 = 0 then some ((-1), M4) else jb1 (Li_wedding N a2 M4) fun r5 M6 => (if r5 < 0 then some ((-2), M6) else (if a3 = 0 then some ((w32 (r5.tdiv 8)), M6) else some ((r5.tmod 8), M6)))))))
theorem c_x_step {l : Launch} {g : jG} (N : Nat) (a1 a2 a3 : Int) (M : jMem)  : ∀ o, x_step N a1 a2 a3 M = some o → jCt l g jTX yX11_step cX11_step 5 (some .int) 0 11 [(2, 0), (0, a1), (0, a2), (0, a3)] M o := by
  refine jMet (own := RX11) (em := id) (L := [(0, 2, 0), (1, 0, a1), (2, 0, a2), (3, 0, a3)]) (by decide +kernel) rfl (Nat.le_of_ble_eq_true rfl) rfl (fun K hR => ?_)
  unfold x_step
  refine z_iload_n (pc := 0) hR 2 dX11_step_0 rfl rfl ?_
  refine z_iflt (pc := 1) (tgt := 35) hR dX11_step_1 (by decide) ?_ ?_
  · refine z_iconst (pc := 35) hR dX11_step_35 rfl ?_
    exact z_ireturn (pc := 36) hR rfl rfl dX11_step_36 rfl
  · refine z_iload_n (pc := 4) hR 3 dX11_step_4 rfl rfl ?_
    refine z_iconst (pc := 5) hR dX11_step_5 rfl ?_
    refine z_iconst (pc := 6) hR dX11_step_6 rfl ?_
    refine z_callsp (pc := 7) hR (As := [(0, a3), (0, 0), (0, 1)]) (st := []) jm_X11_isWithin jl_RX11_137 (by decide) (c_x_isWithin N a3 0 1 M) rfl (by decide) (by decide) rfl (Nat.le_of_ble_eq_true rfl) dX11_step_7 (fun r1 => ?_)
    refine z_ifeq (pc := 10) (tgt := 35) hR dX11_step_10 (by decide) ?_ ?_
    · refine z_iconst (pc := 35) hR dX11_step_35 rfl ?_
      exact z_ireturn (pc := 36) hR rfl rfl dX11_step_36 rfl
    · refine z_aload_n (pc := 13) hR 0 dX11_step_13 rfl rfl ?_
      refine z_callvp (pc := 14) hR (As := []) (st := []) jm_X11_hasParish jl_RX11_177 kxo_0 (by decide) rfl (by decide) (c_x_hasParish N M) rfl (by decide) (by decide) rfl (Nat.le_of_ble_eq_true rfl) dX11_step_14 (fun r2 => ?_)
      refine z_ifeq (pc := 17) (tgt := 35) hR dX11_step_17 (by decide) ?_ ?_
      · refine z_iconst (pc := 35) hR dX11_step_35 rfl ?_
        exact z_ireturn (pc := 36) hR rfl rfl dX11_step_36 rfl
      · refine z_aload_n (pc := 20) hR 0 dX11_step_20 rfl rfl ?_
        refine z_getr (pc := 21) hR (c0 := 171) (r := 171) jf_RX11_75 kxo_0 (by decide) rfl rfl dX11_step_21 ?_
        refine z_aload_n (pc := 24) hR 0 dX11_step_24 rfl rfl ?_
        refine z_getr (pc := 25) hR (c0 := 14) (r := 14) jf_RX11_43 kxo_0 (by decide) rfl rfl dX11_step_25 ?_
        refine z_iload_n (pc := 28) hR 1 dX11_step_28 rfl rfl ?_
        refine z_callv1 (pc := 29) hR (As := [(2, 14), (0, a1)]) (st := []) jm_X2_aimAt jl_RX11_246 kxo_171 (by decide) rfl (by decide) (c_Li_aimAt N a1 M) rfl (by decide) (by decide) rfl (Nat.le_of_ble_eq_true rfl) dX11_step_29 (fun r3 M4 => ?_)
        refine z_ifne (pc := 32) (tgt := 37) hR dX11_step_32 (by decide) ?_ ?_
        · refine z_aload_n (pc := 37) hR 0 dX11_step_37 rfl rfl ?_
          refine z_getr (pc := 38) hR (c0 := 171) (r := 171) jf_RX11_75 kxo_0 (by decide) rfl rfl dX11_step_38 ?_
          refine z_aload_n (pc := 41) hR 0 dX11_step_41 rfl rfl ?_
          refine z_getr (pc := 42) hR (c0 := 14) (r := 14) jf_RX11_43 kxo_0 (by decide) rfl rfl dX11_step_42 ?_
          refine z_getr (pc := 45) hR (c0 := 1) (r := 15) jf_RX11_95 kxo_14 (by decide) rfl rfl dX11_step_45 ?_
          refine z_iload_n (pc := 48) hR 2 dX11_step_48 rfl rfl ?_
          refine z_callv1 (pc := 49) hR (As := [(2, 15), (0, a2)]) (st := []) jm_X2_wedding jl_RX11_253 kxo_171 (by decide) rfl (by decide) (c_Li_wedding N a2 M4) rfl (by decide) (by decide) rfl (Nat.le_of_ble_eq_true rfl) dX11_step_49 (fun r5 M6 => ?_)
          refine z_istore (pc := 52) hR (lv' := [(4, 0, r5), (0, 2, 0), (1, 0, a1), (2, 0, a2), (3, 0, a3)]) dX11_step_52 (by decide) rfl ?_
          refine z_iload (pc := 54) hR 0 dX11_step_54 rfl ?_
          refine z_ifge (pc := 56) (tgt := 62) hR dX11_step_56 (by decide) ?_ ?_
          · refine z_iload_n (pc := 62) hR 4 dX11_step_62 rfl rfl ?_
            refine z_ifne (pc := 63) (tgt := 74) hR dX11_step_63 (by decide) ?_ ?_
            · refine z_iload (pc := 74) hR 0 dX11_step_74 rfl ?_
              refine z_bipush (pc := 76) hR dX11_step_76 rfl ?_
              refine z_irem (pc := 78) hR dX11_step_78 (by decide) ?_
              exact z_ireturn (pc := 79) hR rfl rfl dX11_step_79 rfl
            · refine z_iload (pc := 66) hR 0 dX11_step_66 rfl ?_
              refine z_bipush (pc := 68) hR dX11_step_68 rfl ?_
              refine z_idiv (pc := 70) hR dX11_step_70 (by decide) ?_
              refine z_goto (pc := 71) (tgt := 79) hR dX11_step_71 (by decide) ?_
              exact z_ireturn (pc := 79) hR rfl rfl dX11_step_79 rfl
          · refine z_bipush (pc := 59) hR dX11_step_59 rfl ?_
            exact z_ireturn (pc := 61) hR rfl rfl dX11_step_61 rfl
        · refine z_iconst (pc := 35) hR dX11_step_35 rfl ?_
          exact z_ireturn (pc := 36) hR rfl rfl dX11_step_36 rfl
theorem dX2_reachedWithin_0 : decode cX2_reachedWithin 0 = .ok (.aload_n 0, 1) := by decide +kernel
theorem dX2_reachedWithin_1 : decode cX2_reachedWithin 1 = .ok (.aload_n 1, 1) := by decide +kernel
theorem dX2_reachedWithin_2 : decode cX2_reachedWithin 2 = .ok (.invokevirtual 78, 3) := by decide +kernel
theorem dX2_reachedWithin_5 : decode cX2_reachedWithin 5 = .ok (.iconst 0, 1) := by decide +kernel
theorem dX2_reachedWithin_6 : decode cX2_reachedWithin 6 = .ok (.istore_n 3, 1) := by decide +kernel
theorem dX2_reachedWithin_7 : decode cX2_reachedWithin 7 = .ok (.iload_n 3, 1) := by decide +kernel
theorem dX2_reachedWithin_8 : decode cX2_reachedWithin 8 = .ok (.aload_n 0, 1) := by decide +kernel
theorem dX2_reachedWithin_9 : decode cX2_reachedWithin 9 = .ok (.getfield 47, 3) := by decide +kernel
theorem dX2_reachedWithin_12 : decode cX2_reachedWithin 12 = .ok (.if_icmp .ge 24, 3) := by decide +kernel
theorem dX2_reachedWithin_15 : decode cX2_reachedWithin 15 = .ok (.aload_n 0, 1) := by decide +kernel
theorem dX2_reachedWithin_16 : decode cX2_reachedWithin 16 = .ok (.getfield 11, 3) := by decide +kernel
theorem dX2_reachedWithin_19 : decode cX2_reachedWithin 19 = .ok (.aload_n 0, 1) := by decide +kernel
theorem dX2_reachedWithin_20 : decode cX2_reachedWithin 20 = .ok (.getfield 15, 3) := by decide +kernel
theorem dX2_reachedWithin_23 : decode cX2_reachedWithin 23 = .ok (.iload_n 3, 1) := by decide +kernel
theorem dX2_reachedWithin_24 : decode cX2_reachedWithin 24 = .ok (.saload, 1) := by decide +kernel
theorem dX2_reachedWithin_25 : decode cX2_reachedWithin 25 = .ok (.baload, 1) := by decide +kernel
theorem dX2_reachedWithin_26 : decode cX2_reachedWithin 26 = .ok (.iload_n 2, 1) := by decide +kernel
theorem dX2_reachedWithin_27 : decode cX2_reachedWithin 27 = .ok (.if_icmp .gt 9, 3) := by decide +kernel
theorem dX2_reachedWithin_30 : decode cX2_reachedWithin 30 = .ok (.iinc 3 1, 3) := by decide +kernel
theorem dX2_reachedWithin_33 : decode cX2_reachedWithin 33 = .ok (.goto (-26), 3) := by decide +kernel
theorem dX2_reachedWithin_36 : decode cX2_reachedWithin 36 = .ok (.iload_n 3, 1) := by decide +kernel
theorem dX2_reachedWithin_37 : decode cX2_reachedWithin 37 = .ok (.ireturn, 1) := by decide +kernel
def Li_reachedWithin_L7 (N : Nat) (a2 : Int) (M1 : jMem) (h7 : Int → Option (Int × jMem)) : Int → Option (Int × jMem)
  | x2 => (if x2 < (M1 171 2) then jchk (0 ≤ x2 ∧ x2 < 5040) <| jchk (0 ≤ (M1 173 x2) ∧ (M1 173 x2) < 5040) <| (if a2 < (M1 172 ((M1 173 x2))) then some (x2, M1) else h7 ((w32 (x2 + 1)))) else some (x2, M1))
def Li_reachedWithin (N : Nat) (a2 : Int) (M : jMem) : Option (Int × jMem) := jbv (Li_fillFor N M) fun M1 => jfix N (Li_reachedWithin_L7 N a2 M1) 0
theorem c_Li_reachedWithin {l : Launch} {g : jG} (N : Nat) (a2 : Int) (M : jMem)  : ∀ o, Li_reachedWithin N a2 M = some o → jCt l g jTX yX2_reachedWithin cX2_reachedWithin 4 (some .int) 0 9 [(2, 171), (2, 15), (0, a2)] M o := by
  refine jMet (own := RX2) (em := id) (L := [(0, 2, 171), (1, 2, 15), (2, 0, a2)]) (by decide +kernel) rfl (Nat.le_of_ble_eq_true rfl) rfl (fun K hR => ?_)
  unfold Li_reachedWithin
  refine z_aload_n (pc := 0) hR 0 dX2_reachedWithin_0 rfl rfl ?_
  refine z_aload_n (pc := 1) hR 1 dX2_reachedWithin_1 rfl rfl ?_
  refine z_callv0 (pc := 2) (rk' := 3) hR (As := [(2, 15)]) (st := []) jm_X2_fillFor jl_RX2_78 kxo_171 (by decide) rfl (c_Li_fillFor N M) rfl (by decide) (by decide) rfl (Nat.le_of_ble_eq_true rfl) dX2_reachedWithin_2 (fun M1 => ?_)
  refine z_iconst (pc := 5) hR dX2_reachedWithin_5 rfl ?_
  refine z_istore_n (pc := 6) hR (lv' := [(3, 0, 0), (0, 2, 171), (1, 2, 15), (2, 0, a2)]) dX2_reachedWithin_6 rfl (by decide) rfl ?_
  refine z_pick (pc := 7) (lv' := [(0, 2, 171), (2, 0, a2), (3, 0, 0)]) hR [1, 3, 0] rfl ?_
  refine z_fix (σ := Int) (lv := fun s => [(0, 2, 171), (2, 0, a2), (3, 0, s)]) (st := fun _ => []) (M := fun _ => M1) (fun h7 hh7 => ?_) N 0
  intro x2
  show jZ K id 7 [(0, 2, 171), (2, 0, a2), (3, 0, x2)] [] M1 _
  unfold Li_reachedWithin_L7
  refine z_iload_n (pc := 7) hR 2 dX2_reachedWithin_7 rfl rfl ?_
  refine z_aload_n (pc := 8) hR 0 dX2_reachedWithin_8 rfl rfl ?_
  refine z_geti (pc := 9) hR (j := 2) jf_RX2_47 kxo_171 (by decide) rfl rfl dX2_reachedWithin_9 ?_
  refine z_icmpge (pc := 12) (tgt := 36) hR dX2_reachedWithin_12 (by decide) ?_ ?_
  · refine z_iload_n (pc := 36) hR 2 dX2_reachedWithin_36 rfl rfl ?_
    exact z_ireturn (pc := 37) hR rfl rfl dX2_reachedWithin_37 rfl
  · refine z_aload_n (pc := 15) hR 0 dX2_reachedWithin_15 rfl rfl ?_
    refine z_getr (pc := 16) hR (c0 := 1) (r := 172) jf_RX2_11 kxo_171 (by decide) rfl rfl dX2_reachedWithin_16 ?_
    refine z_aload_n (pc := 19) hR 0 dX2_reachedWithin_19 rfl rfl ?_
    refine z_getr (pc := 20) hR (c0 := 2) (r := 173) jf_RX2_15 kxo_171 (by decide) rfl rfl dX2_reachedWithin_20 ?_
    refine z_iload_n (pc := 23) hR 2 dX2_reachedWithin_23 rfl rfl ?_
    refine z_chk (fun hc3 => ?_)
    refine z_sald (pc := 24) hR (n := 5040) kxa_173 hc3.1 hc3.2 dX2_reachedWithin_24 ?_
    refine z_chk (fun hc4 => ?_)
    refine z_bald (pc := 25) hR (n := 5040) kxa_172 hc4.1 hc4.2 dX2_reachedWithin_25 ?_
    refine z_iload_n (pc := 26) hR 1 dX2_reachedWithin_26 rfl rfl ?_
    refine z_icmpgt (pc := 27) (tgt := 36) hR dX2_reachedWithin_27 (by decide) ?_ ?_
    · refine z_iload_n (pc := 36) hR 2 dX2_reachedWithin_36 rfl rfl ?_
      exact z_ireturn (pc := 37) hR rfl rfl dX2_reachedWithin_37 rfl
    · refine z_iinc (pc := 30) hR (j := 2) (lv' := [(3, 0, (w32 (x2 + 1))), (0, 2, 171), (2, 0, a2)]) dX2_reachedWithin_30 rfl (by decide) rfl ?_
      refine z_goto (pc := 33) (tgt := 7) hR dX2_reachedWithin_33 (by decide) ?_
      refine z_pick (pc := 7) (lv' := [(0, 2, 171), (2, 0, a2), (3, 0, (w32 (x2 + 1)))]) hR [1, 2, 0] rfl ?_
      exact hh7 ((w32 (x2 + 1)))
theorem dX11_lies_0 : decode cX11_lies 0 = .ok (.iload_n 1, 1) := by decide +kernel
theorem dX11_lies_1 : decode cX11_lies 1 = .ok (.iconst 0, 1) := by decide +kernel
theorem dX11_lies_2 : decode cX11_lies 2 = .ok (.bipush 30, 2) := by decide +kernel
theorem dX11_lies_4 : decode cX11_lies 4 = .ok (.invokestatic 137, 3) := by decide +kernel
theorem dX11_lies_7 : decode cX11_lies 7 = .ok (.ifCond .eq 10, 3) := by decide +kernel
theorem dX11_lies_10 : decode cX11_lies 10 = .ok (.aload_n 0, 1) := by decide +kernel
theorem dX11_lies_11 : decode cX11_lies 11 = .ok (.invokevirtual 177, 3) := by decide +kernel
theorem dX11_lies_14 : decode cX11_lies 14 = .ok (.ifCond .ne 5, 3) := by decide +kernel
theorem dX11_lies_17 : decode cX11_lies 17 = .ok (.iconst (-1), 1) := by decide +kernel
theorem dX11_lies_18 : decode cX11_lies 18 = .ok (.ireturn, 1) := by decide +kernel
theorem dX11_lies_19 : decode cX11_lies 19 = .ok (.aload_n 0, 1) := by decide +kernel
theorem dX11_lies_20 : decode cX11_lies 20 = .ok (.getfield 75, 3) := by decide +kernel
theorem dX11_lies_23 : decode cX11_lies 23 = .ok (.aload_n 0, 1) := by decide +kernel
theorem dX11_lies_24 : decode cX11_lies 24 = .ok (.getfield 43, 3) := by decide +kernel
theorem dX11_lies_27 : decode cX11_lies 27 = .ok (.getfield 95, 3) := by decide +kernel
theorem dX11_lies_30 : decode cX11_lies 30 = .ok (.iload_n 1, 1) := by decide +kernel
theorem dX11_lies_31 : decode cX11_lies 31 = .ok (.invokevirtual 257, 3) := by decide +kernel
theorem dX11_lies_34 : decode cX11_lies 34 = .ok (.ireturn, 1) := by decide +kernel
def x_lies (N : Nat) (a1 : Int) (M : jMem) : Option (Int × jMem) := (x_isWithin N a1 0 30 M).bind fun r1 => (if r1 = 0 then some ((-1), M) else (x_hasParish N M).bind fun r2 => (if r2 = 0 then some ((-1), M) else jb1 (Li_reachedWithin N a1 M) fun r3 M4 => some (r3, M4)))
theorem c_x_lies {l : Launch} {g : jG} (N : Nat) (a1 : Int) (M : jMem)  : ∀ o, x_lies N a1 M = some o → jCt l g jTX yX11_lies cX11_lies 2 (some .int) 0 11 [(2, 0), (0, a1)] M o := by
  refine jMet (own := RX11) (em := id) (L := [(0, 2, 0), (1, 0, a1)]) (by decide +kernel) rfl (Nat.le_of_ble_eq_true rfl) rfl (fun K hR => ?_)
  unfold x_lies
  refine z_iload_n (pc := 0) hR 1 dX11_lies_0 rfl rfl ?_
  refine z_iconst (pc := 1) hR dX11_lies_1 rfl ?_
  refine z_bipush (pc := 2) hR dX11_lies_2 rfl ?_
  refine z_callsp (pc := 4) hR (As := [(0, a1), (0, 0), (0, 30)]) (st := []) jm_X11_isWithin jl_RX11_137 (by decide) (c_x_isWithin N a1 0 30 M) rfl (by decide) (by decide) rfl (Nat.le_of_ble_eq_true rfl) dX11_lies_4 (fun r1 => ?_)
  refine z_ifeq (pc := 7) (tgt := 17) hR dX11_lies_7 (by decide) ?_ ?_
  · refine z_iconst (pc := 17) hR dX11_lies_17 rfl ?_
    exact z_ireturn (pc := 18) hR rfl rfl dX11_lies_18 rfl
  · refine z_aload_n (pc := 10) hR 0 dX11_lies_10 rfl rfl ?_
    refine z_callvp (pc := 11) hR (As := []) (st := []) jm_X11_hasParish jl_RX11_177 kxo_0 (by decide) rfl (by decide) (c_x_hasParish N M) rfl (by decide) (by decide) rfl (Nat.le_of_ble_eq_true rfl) dX11_lies_11 (fun r2 => ?_)
    refine z_ifne (pc := 14) (tgt := 19) hR dX11_lies_14 (by decide) ?_ ?_
    · refine z_aload_n (pc := 19) hR 0 dX11_lies_19 rfl rfl ?_
      refine z_getr (pc := 20) hR (c0 := 171) (r := 171) jf_RX11_75 kxo_0 (by decide) rfl rfl dX11_lies_20 ?_
      refine z_aload_n (pc := 23) hR 0 dX11_lies_23 rfl rfl ?_
      refine z_getr (pc := 24) hR (c0 := 14) (r := 14) jf_RX11_43 kxo_0 (by decide) rfl rfl dX11_lies_24 ?_
      refine z_getr (pc := 27) hR (c0 := 1) (r := 15) jf_RX11_95 kxo_14 (by decide) rfl rfl dX11_lies_27 ?_
      refine z_iload_n (pc := 30) hR 1 dX11_lies_30 rfl rfl ?_
      refine z_callv1 (pc := 31) hR (As := [(2, 15), (0, a1)]) (st := []) jm_X2_reachedWithin jl_RX11_257 kxo_171 (by decide) rfl (by decide) (c_Li_reachedWithin N a1 M) rfl (by decide) (by decide) rfl (Nat.le_of_ble_eq_true rfl) dX11_lies_31 (fun r3 M4 => ?_)
      exact z_ireturn (pc := 34) hR rfl rfl dX11_lies_34 rfl
    · refine z_iconst (pc := 17) hR dX11_lies_17 rfl ?_
      exact z_ireturn (pc := 18) hR rfl rfl dX11_lies_18 rfl
theorem dX2_most_0 : decode cX2_most 0 = .ok (.aload_n 0, 1) := by decide +kernel
theorem dX2_most_1 : decode cX2_most 1 = .ok (.aload_n 1, 1) := by decide +kernel
theorem dX2_most_2 : decode cX2_most 2 = .ok (.invokevirtual 78, 3) := by decide +kernel
theorem dX2_most_5 : decode cX2_most 5 = .ok (.aload_n 0, 1) := by decide +kernel
theorem dX2_most_6 : decode cX2_most 6 = .ok (.getfield 47, 3) := by decide +kernel
theorem dX2_most_9 : decode cX2_most 9 = .ok (.ifCond .le 22, 3) := by decide +kernel
theorem dX2_most_12 : decode cX2_most 12 = .ok (.aload_n 0, 1) := by decide +kernel
theorem dX2_most_13 : decode cX2_most 13 = .ok (.getfield 11, 3) := by decide +kernel
theorem dX2_most_16 : decode cX2_most 16 = .ok (.aload_n 0, 1) := by decide +kernel
theorem dX2_most_17 : decode cX2_most 17 = .ok (.getfield 15, 3) := by decide +kernel
theorem dX2_most_20 : decode cX2_most 20 = .ok (.aload_n 0, 1) := by decide +kernel
theorem dX2_most_21 : decode cX2_most 21 = .ok (.getfield 47, 3) := by decide +kernel
theorem dX2_most_24 : decode cX2_most 24 = .ok (.iconst 1, 1) := by decide +kernel
theorem dX2_most_25 : decode cX2_most 25 = .ok (.isub, 1) := by decide +kernel
theorem dX2_most_26 : decode cX2_most 26 = .ok (.saload, 1) := by decide +kernel
theorem dX2_most_27 : decode cX2_most 27 = .ok (.baload, 1) := by decide +kernel
theorem dX2_most_28 : decode cX2_most 28 = .ok (.goto 4, 3) := by decide +kernel
theorem dX2_most_31 : decode cX2_most 31 = .ok (.iconst 0, 1) := by decide +kernel
theorem dX2_most_32 : decode cX2_most 32 = .ok (.ireturn, 1) := by decide +kernel
def Li_most (N : Nat) (M : jMem) : Option (Int × jMem) := jbv (Li_fillFor N M) fun M1 => (if 0 < (M1 171 2) then jchk (0 ≤ (w32 (((M1 171 2)) - 1)) ∧ (w32 (((M1 171 2)) - 1)) < 5040) <| jchk (0 ≤ (M1 173 ((w32 (((M1 171 2)) - 1)))) ∧ (M1 173 ((w32 (((M1 171 2)) - 1)))) < 5040) <| some ((M1 172 ((M1 173 ((w32 (((M1 171 2)) - 1)))))), M1) else some (0, M1))
theorem c_Li_most {l : Launch} {g : jG} (N : Nat) (M : jMem)  : ∀ o, Li_most N  M = some o → jCt l g jTX yX2_most cX2_most 2 (some .int) 0 9 [(2, 171), (2, 15)] M o := by
  refine jMet (own := RX2) (em := id) (L := [(0, 2, 171), (1, 2, 15)]) (by decide +kernel) rfl (Nat.le_of_ble_eq_true rfl) rfl (fun K hR => ?_)
  unfold Li_most
  refine z_aload_n (pc := 0) hR 0 dX2_most_0 rfl rfl ?_
  refine z_aload_n (pc := 1) hR 1 dX2_most_1 rfl rfl ?_
  refine z_callv0 (pc := 2) (rk' := 3) hR (As := [(2, 15)]) (st := []) jm_X2_fillFor jl_RX2_78 kxo_171 (by decide) rfl (c_Li_fillFor N M) rfl (by decide) (by decide) rfl (Nat.le_of_ble_eq_true rfl) dX2_most_2 (fun M1 => ?_)
  refine z_aload_n (pc := 5) hR 0 dX2_most_5 rfl rfl ?_
  refine z_geti (pc := 6) hR (j := 2) jf_RX2_47 kxo_171 (by decide) rfl rfl dX2_most_6 ?_
  refine z_ifle (pc := 9) (tgt := 31) hR dX2_most_9 (by decide) ?_ ?_
  · refine z_iconst (pc := 31) hR dX2_most_31 rfl ?_
    exact z_ireturn (pc := 32) hR rfl rfl dX2_most_32 rfl
  · refine z_aload_n (pc := 12) hR 0 dX2_most_12 rfl rfl ?_
    refine z_getr (pc := 13) hR (c0 := 1) (r := 172) jf_RX2_11 kxo_171 (by decide) rfl rfl dX2_most_13 ?_
    refine z_aload_n (pc := 16) hR 0 dX2_most_16 rfl rfl ?_
    refine z_getr (pc := 17) hR (c0 := 2) (r := 173) jf_RX2_15 kxo_171 (by decide) rfl rfl dX2_most_17 ?_
    refine z_aload_n (pc := 20) hR 0 dX2_most_20 rfl rfl ?_
    refine z_geti (pc := 21) hR (j := 2) jf_RX2_47 kxo_171 (by decide) rfl rfl dX2_most_21 ?_
    refine z_iconst (pc := 24) hR dX2_most_24 rfl ?_
    refine z_isub (pc := 25) hR dX2_most_25 ?_
    refine z_chk (fun hc2 => ?_)
    refine z_sald (pc := 26) hR (n := 5040) kxa_173 hc2.1 hc2.2 dX2_most_26 ?_
    refine z_chk (fun hc3 => ?_)
    refine z_bald (pc := 27) hR (n := 5040) kxa_172 hc3.1 hc3.2 dX2_most_27 ?_
    refine z_goto (pc := 28) (tgt := 32) hR dX2_most_28 (by decide) ?_
    exact z_ireturn (pc := 32) hR rfl rfl dX2_most_32 rfl
theorem dX2_leastOfFarthest_0 : decode cX2_leastOfFarthest 0 = .ok (.aload_n 0, 1) := by decide +kernel
theorem dX2_leastOfFarthest_1 : decode cX2_leastOfFarthest 1 = .ok (.aload_n 1, 1) := by decide +kernel
theorem dX2_leastOfFarthest_2 : decode cX2_leastOfFarthest 2 = .ok (.getfield 72, 3) := by decide +kernel
theorem dX2_leastOfFarthest_5 : decode cX2_leastOfFarthest 5 = .ok (.invokevirtual 103, 3) := by decide +kernel
theorem dX2_leastOfFarthest_8 : decode cX2_leastOfFarthest 8 = .ok (.istore_n 2, 1) := by decide +kernel
theorem dX2_leastOfFarthest_9 : decode cX2_leastOfFarthest 9 = .ok (.ldc 106, 2) := by decide +kernel
theorem dX2_leastOfFarthest_11 : decode cX2_leastOfFarthest 11 = .ok (.istore_n 3, 1) := by decide +kernel
theorem dX2_leastOfFarthest_12 : decode cX2_leastOfFarthest 12 = .ok (.aload_n 0, 1) := by decide +kernel
theorem dX2_leastOfFarthest_13 : decode cX2_leastOfFarthest 13 = .ok (.getfield 47, 3) := by decide +kernel
theorem dX2_leastOfFarthest_16 : decode cX2_leastOfFarthest 16 = .ok (.iconst 1, 1) := by decide +kernel
theorem dX2_leastOfFarthest_17 : decode cX2_leastOfFarthest 17 = .ok (.isub, 1) := by decide +kernel
theorem dX2_leastOfFarthest_18 : decode cX2_leastOfFarthest 18 = .ok (.istore 4, 2) := by decide +kernel
theorem dX2_leastOfFarthest_20 : decode cX2_leastOfFarthest 20 = .ok (.iload 4, 2) := by decide +kernel
theorem dX2_leastOfFarthest_22 : decode cX2_leastOfFarthest 22 = .ok (.ifCond .lt 89, 3) := by decide +kernel
theorem dX2_leastOfFarthest_25 : decode cX2_leastOfFarthest 25 = .ok (.aload_n 0, 1) := by decide +kernel
theorem dX2_leastOfFarthest_26 : decode cX2_leastOfFarthest 26 = .ok (.getfield 11, 3) := by decide +kernel
theorem dX2_leastOfFarthest_29 : decode cX2_leastOfFarthest 29 = .ok (.aload_n 0, 1) := by decide +kernel
theorem dX2_leastOfFarthest_30 : decode cX2_leastOfFarthest 30 = .ok (.getfield 15, 3) := by decide +kernel
theorem dX2_leastOfFarthest_33 : decode cX2_leastOfFarthest 33 = .ok (.iload 4, 2) := by decide +kernel
theorem dX2_leastOfFarthest_35 : decode cX2_leastOfFarthest 35 = .ok (.saload, 1) := by decide +kernel
theorem dX2_leastOfFarthest_36 : decode cX2_leastOfFarthest 36 = .ok (.baload, 1) := by decide +kernel
theorem dX2_leastOfFarthest_37 : decode cX2_leastOfFarthest 37 = .ok (.iload_n 2, 1) := by decide +kernel
theorem dX2_leastOfFarthest_38 : decode cX2_leastOfFarthest 38 = .ok (.if_icmp .ne 73, 3) := by decide +kernel
theorem dX2_leastOfFarthest_41 : decode cX2_leastOfFarthest 41 = .ok (.aload_n 0, 1) := by decide +kernel
theorem dX2_leastOfFarthest_42 : decode cX2_leastOfFarthest 42 = .ok (.aload_n 0, 1) := by decide +kernel
theorem dX2_leastOfFarthest_43 : decode cX2_leastOfFarthest 43 = .ok (.getfield 15, 3) := by decide +kernel
theorem dX2_leastOfFarthest_46 : decode cX2_leastOfFarthest 46 = .ok (.iload 4, 2) := by decide +kernel
theorem dX2_leastOfFarthest_48 : decode cX2_leastOfFarthest 48 = .ok (.saload, 1) := by decide +kernel
theorem dX2_leastOfFarthest_49 : decode cX2_leastOfFarthest 49 = .ok (.invokevirtual 54, 3) := by decide +kernel
theorem dX2_leastOfFarthest_52 : decode cX2_leastOfFarthest 52 = .ok (.iconst 0, 1) := by decide +kernel
theorem dX2_leastOfFarthest_53 : decode cX2_leastOfFarthest 53 = .ok (.istore 5, 2) := by decide +kernel
theorem dX2_leastOfFarthest_55 : decode cX2_leastOfFarthest 55 = .ok (.iconst 0, 1) := by decide +kernel
theorem dX2_leastOfFarthest_56 : decode cX2_leastOfFarthest 56 = .ok (.istore 6, 2) := by decide +kernel
theorem dX2_leastOfFarthest_58 : decode cX2_leastOfFarthest 58 = .ok (.iload 6, 2) := by decide +kernel
theorem dX2_leastOfFarthest_60 : decode cX2_leastOfFarthest 60 = .ok (.aload_n 0, 1) := by decide +kernel
theorem dX2_leastOfFarthest_61 : decode cX2_leastOfFarthest 61 = .ok (.getfield 43, 3) := by decide +kernel
theorem dX2_leastOfFarthest_64 : decode cX2_leastOfFarthest 64 = .ok (.if_icmp .ge 34, 3) := by decide +kernel
theorem dX2_leastOfFarthest_67 : decode cX2_leastOfFarthest 67 = .ok (.iload 5, 2) := by decide +kernel
theorem dX2_leastOfFarthest_69 : decode cX2_leastOfFarthest 69 = .ok (.bipush 10, 2) := by decide +kernel
theorem dX2_leastOfFarthest_71 : decode cX2_leastOfFarthest 71 = .ok (.imul, 1) := by decide +kernel
theorem dX2_leastOfFarthest_72 : decode cX2_leastOfFarthest 72 = .ok (.aload_n 1, 1) := by decide +kernel
theorem dX2_leastOfFarthest_73 : decode cX2_leastOfFarthest 73 = .ok (.getfield 82, 3) := by decide +kernel
theorem dX2_leastOfFarthest_76 : decode cX2_leastOfFarthest 76 = .ok (.getfield 107, 3) := by decide +kernel
theorem dX2_leastOfFarthest_79 : decode cX2_leastOfFarthest 79 = .ok (.aload_n 0, 1) := by decide +kernel
theorem dX2_leastOfFarthest_80 : decode cX2_leastOfFarthest 80 = .ok (.getfield 19, 3) := by decide +kernel
theorem dX2_leastOfFarthest_83 : decode cX2_leastOfFarthest 83 = .ok (.iload 6, 2) := by decide +kernel
theorem dX2_leastOfFarthest_85 : decode cX2_leastOfFarthest 85 = .ok (.iaload, 1) := by decide +kernel
theorem dX2_leastOfFarthest_86 : decode cX2_leastOfFarthest 86 = .ok (.iaload, 1) := by decide +kernel
theorem dX2_leastOfFarthest_87 : decode cX2_leastOfFarthest 87 = .ok (.iadd, 1) := by decide +kernel
theorem dX2_leastOfFarthest_88 : decode cX2_leastOfFarthest 88 = .ok (.iconst 1, 1) := by decide +kernel
theorem dX2_leastOfFarthest_89 : decode cX2_leastOfFarthest 89 = .ok (.iadd, 1) := by decide +kernel
theorem dX2_leastOfFarthest_90 : decode cX2_leastOfFarthest 90 = .ok (.istore 5, 2) := by decide +kernel
theorem dX2_leastOfFarthest_92 : decode cX2_leastOfFarthest 92 = .ok (.iinc 6 1, 3) := by decide +kernel
theorem dX2_leastOfFarthest_95 : decode cX2_leastOfFarthest 95 = .ok (.goto (-37), 3) := by decide +kernel
theorem dX2_leastOfFarthest_98 : decode cX2_leastOfFarthest 98 = .ok (.iload_n 3, 1) := by decide +kernel
theorem dX2_leastOfFarthest_99 : decode cX2_leastOfFarthest 99 = .ok (.iload 5, 2) := by decide +kernel
theorem dX2_leastOfFarthest_101 : decode cX2_leastOfFarthest 101 = .ok (.invokestatic 110, 3) := by decide +kernel
theorem dX2_leastOfFarthest_104 : decode cX2_leastOfFarthest 104 = .ok (.istore_n 3, 1) := by decide +kernel
theorem dX2_leastOfFarthest_105 : decode cX2_leastOfFarthest 105 = .ok (.iinc 4 (-1), 3) := by decide +kernel
theorem dX2_leastOfFarthest_108 : decode cX2_leastOfFarthest 108 = .ok (.goto (-88), 3) := by decide +kernel
theorem dX2_leastOfFarthest_111 : decode cX2_leastOfFarthest 111 = .ok (.iload_n 3, 1) := by decide +kernel
theorem dX2_leastOfFarthest_112 : decode cX2_leastOfFarthest 112 = .ok (.ireturn, 1) := by decide +kernel
def Li_leastOfFarthest_L58 (N : Nat) (x4 : Int) (x5 : Int) (h20 : (Int × Int × jMem) → Option (Int × jMem)) (M10 : jMem) (h58 : (Int × Int) → Option (Int × jMem)) : Int × Int → Option (Int × jMem)
  | (x11, x12) => (if x12 < (M10 171 7) then jchk (0 ≤ x12 ∧ x12 < 7) <| jchk (0 ≤ (M10 174 x12) ∧ (M10 174 x12) < 7) <| jlt ((w32 (((w32 (((w32 (x11 * 10))) + ((M10 25 ((M10 174 x12))))))) + 1))) fun v16 => h58 (v16, (w32 (x12 + 1))) else jlt ((jmin x4 x11)) fun v13 => h20 (v13, (w32 (x5 + (-1))), M10))
def Li_leastOfFarthest_L20 (N : Nat) (r1 : Int) (h20 : (Int × Int × jMem) → Option (Int × jMem)) : Int × Int × jMem → Option (Int × jMem)
  | (x4, x5, M6) => (if x5 < 0 then some (x4, M6) else jchk (0 ≤ x5 ∧ x5 < 5040) <| jchk (0 ≤ (M6 173 x5) ∧ (M6 173 x5) < 5040) <| (if (M6 172 ((M6 173 x5))) = r1 then jchk (0 ≤ x5 ∧ x5 < 5040) <| jbv (Li_spread N ((M6 173 x5)) M6) fun M10 => jfix N (Li_leastOfFarthest_L58 N x4 x5 h20 M10) (0, 0) else some (x4, M6)))
def Li_leastOfFarthest (N : Nat) (M : jMem) : Option (Int × jMem) := jb1 (Li_most N M) fun r1 M2 => jlt ((w32 (((M2 171 2)) - 1))) fun v3 => jfix N (Li_leastOfFarthest_L20 N r1) (10000000, v3, M2)
theorem c_Li_leastOfFarthest {l : Launch} {g : jG} (N : Nat) (M : jMem)  : ∀ o, Li_leastOfFarthest N  M = some o → jCt l g jTX yX2_leastOfFarthest cX2_leastOfFarthest 7 (some .int) 0 11 [(2, 171), (2, 14)] M o := by
  refine jMet (own := RX2) (em := id) (L := [(0, 2, 171), (1, 2, 14)]) (by decide +kernel) rfl (Nat.le_of_ble_eq_true rfl) rfl (fun K hR => ?_)
  unfold Li_leastOfFarthest
  refine z_aload_n (pc := 0) hR 0 dX2_leastOfFarthest_0 rfl rfl ?_
  refine z_aload_n (pc := 1) hR 1 dX2_leastOfFarthest_1 rfl rfl ?_
  refine z_getr (pc := 2) hR (c0 := 1) (r := 15) jf_RX2_72 kxo_14 (by decide) rfl rfl dX2_leastOfFarthest_2 ?_
  refine z_callv1 (pc := 5) hR (As := [(2, 15)]) (st := []) jm_X2_most jl_RX2_103 kxo_171 (by decide) rfl (by decide) (c_Li_most N M) rfl (by decide) (by decide) rfl (Nat.le_of_ble_eq_true rfl) dX2_leastOfFarthest_5 (fun r1 M2 => ?_)
  refine z_istore_n (pc := 8) hR (lv' := [(2, 0, r1), (0, 2, 171), (1, 2, 14)]) dX2_leastOfFarthest_8 rfl (by decide) rfl ?_
  refine z_ldc (pc := 9) hR (n := 10000000) jc_RX2_106 (by decide) rfl dX2_leastOfFarthest_9 ?_
  refine z_istore_n (pc := 11) hR (lv' := [(3, 0, 10000000), (2, 0, r1), (0, 2, 171), (1, 2, 14)]) dX2_leastOfFarthest_11 rfl (by decide) rfl ?_
  refine z_aload_n (pc := 12) hR 2 dX2_leastOfFarthest_12 rfl rfl ?_
  refine z_geti (pc := 13) hR (j := 2) jf_RX2_47 kxo_171 (by decide) rfl rfl dX2_leastOfFarthest_13 ?_
  refine z_iconst (pc := 16) hR dX2_leastOfFarthest_16 rfl ?_
  refine z_isub (pc := 17) hR dX2_leastOfFarthest_17 ?_
  refine z_let1 (fun v3 => ?_)
  refine z_istore (pc := 18) hR (lv' := [(4, 0, v3), (3, 0, 10000000), (2, 0, r1), (0, 2, 171), (1, 2, 14)]) dX2_leastOfFarthest_18 (by decide) rfl ?_
  refine z_pick (pc := 20) (lv' := [(0, 2, 171), (1, 2, 14), (2, 0, r1), (3, 0, 10000000), (4, 0, v3)]) hR [3, 4, 2, 1, 0] rfl ?_
  refine z_fix (σ := Int × Int × jMem) (lv := fun s => [(0, 2, 171), (1, 2, 14), (2, 0, r1), (3, 0, s.1), (4, 0, s.2.1)]) (st := fun _ => []) (M := fun s => s.2.2) (fun h20 hh20 => ?_) N (10000000, v3, M2)
  rintro ⟨x4, x5, M6⟩
  show jZ K id 20 [(0, 2, 171), (1, 2, 14), (2, 0, r1), (3, 0, x4), (4, 0, x5)] [] M6 _
  unfold Li_leastOfFarthest_L20
  refine z_iload (pc := 20) hR 4 dX2_leastOfFarthest_20 rfl ?_
  refine z_iflt (pc := 22) (tgt := 111) hR dX2_leastOfFarthest_22 (by decide) ?_ ?_
  · refine z_iload_n (pc := 111) hR 3 dX2_leastOfFarthest_111 rfl rfl ?_
    exact z_ireturn (pc := 112) hR rfl rfl dX2_leastOfFarthest_112 rfl
  · refine z_aload_n (pc := 25) hR 0 dX2_leastOfFarthest_25 rfl rfl ?_
    refine z_getr (pc := 26) hR (c0 := 1) (r := 172) jf_RX2_11 kxo_171 (by decide) rfl rfl dX2_leastOfFarthest_26 ?_
    refine z_aload_n (pc := 29) hR 0 dX2_leastOfFarthest_29 rfl rfl ?_
    refine z_getr (pc := 30) hR (c0 := 2) (r := 173) jf_RX2_15 kxo_171 (by decide) rfl rfl dX2_leastOfFarthest_30 ?_
    refine z_iload (pc := 33) hR 4 dX2_leastOfFarthest_33 rfl ?_
    refine z_chk (fun hc7 => ?_)
    refine z_sald (pc := 35) hR (n := 5040) kxa_173 hc7.1 hc7.2 dX2_leastOfFarthest_35 ?_
    refine z_chk (fun hc8 => ?_)
    refine z_bald (pc := 36) hR (n := 5040) kxa_172 hc8.1 hc8.2 dX2_leastOfFarthest_36 ?_
    refine z_iload_n (pc := 37) hR 2 dX2_leastOfFarthest_37 rfl rfl ?_
    refine z_icmpne (pc := 38) (tgt := 111) hR dX2_leastOfFarthest_38 (by decide) ?_ ?_
    · refine z_iload_n (pc := 111) hR 3 dX2_leastOfFarthest_111 rfl rfl ?_
      exact z_ireturn (pc := 112) hR rfl rfl dX2_leastOfFarthest_112 rfl
    · refine z_aload_n (pc := 41) hR 0 dX2_leastOfFarthest_41 rfl rfl ?_
      refine z_aload_n (pc := 42) hR 0 dX2_leastOfFarthest_42 rfl rfl ?_
      refine z_getr (pc := 43) hR (c0 := 2) (r := 173) jf_RX2_15 kxo_171 (by decide) rfl rfl dX2_leastOfFarthest_43 ?_
      refine z_iload (pc := 46) hR 4 dX2_leastOfFarthest_46 rfl ?_
      refine z_chk (fun hc9 => ?_)
      refine z_sald (pc := 48) hR (n := 5040) kxa_173 hc9.1 hc9.2 dX2_leastOfFarthest_48 ?_
      refine z_callv0 (pc := 49) (rk' := 3) hR (As := [(0, (M6 173 x5))]) (st := []) jm_X2_spread jl_RX2_54 kxo_171 (by decide) rfl (c_Li_spread N ((M6 173 x5)) M6) rfl (by decide) (by decide) rfl (Nat.le_of_ble_eq_true rfl) dX2_leastOfFarthest_49 (fun M10 => ?_)
      refine z_iconst (pc := 52) hR dX2_leastOfFarthest_52 rfl ?_
      refine z_istore (pc := 53) hR (lv' := [(5, 0, 0), (0, 2, 171), (1, 2, 14), (2, 0, r1), (3, 0, x4), (4, 0, x5)]) dX2_leastOfFarthest_53 (by decide) rfl ?_
      refine z_iconst (pc := 55) hR dX2_leastOfFarthest_55 rfl ?_
      refine z_istore (pc := 56) hR (lv' := [(6, 0, 0), (5, 0, 0), (0, 2, 171), (1, 2, 14), (2, 0, r1), (3, 0, x4), (4, 0, x5)]) dX2_leastOfFarthest_56 (by decide) rfl ?_
      refine z_pick (pc := 58) (lv' := [(0, 2, 171), (1, 2, 14), (2, 0, r1), (3, 0, x4), (4, 0, x5), (5, 0, 0), (6, 0, 0)]) hR [2, 3, 4, 5, 6, 1, 0] rfl ?_
      refine z_fix (σ := Int × Int) (lv := fun s => [(0, 2, 171), (1, 2, 14), (2, 0, r1), (3, 0, x4), (4, 0, x5), (5, 0, s.1), (6, 0, s.2)]) (st := fun _ => []) (M := fun _ => M10) (fun h58 hh58 => ?_) N (0, 0)
      rintro ⟨x11, x12⟩
      show jZ K id 58 [(0, 2, 171), (1, 2, 14), (2, 0, r1), (3, 0, x4), (4, 0, x5), (5, 0, x11), (6, 0, x12)] [] M10 _
      unfold Li_leastOfFarthest_L58
      refine z_iload (pc := 58) hR 6 dX2_leastOfFarthest_58 rfl ?_
      refine z_aload_n (pc := 60) hR 0 dX2_leastOfFarthest_60 rfl rfl ?_
      refine z_geti (pc := 61) hR (j := 7) jf_RX2_43 kxo_171 (by decide) rfl rfl dX2_leastOfFarthest_61 ?_
      refine z_icmpge (pc := 64) (tgt := 98) hR dX2_leastOfFarthest_64 (by decide) ?_ ?_
      · refine z_iload_n (pc := 98) hR 3 dX2_leastOfFarthest_98 rfl rfl ?_
        refine z_iload (pc := 99) hR 5 dX2_leastOfFarthest_99 rfl ?_
        refine z_mmin (pc := 101) hR jl_RX2_110 jw_min_s jw_Math jw_min_c (by decide) (Nat.le_of_ble_eq_true rfl) dX2_leastOfFarthest_101 ?_
        refine z_let1 (fun v13 => ?_)
        refine z_istore_n (pc := 104) hR (lv' := [(3, 0, v13), (0, 2, 171), (1, 2, 14), (2, 0, r1), (4, 0, x5), (5, 0, x11), (6, 0, x12)]) dX2_leastOfFarthest_104 rfl (by decide) rfl ?_
        refine z_iinc (pc := 105) hR (j := 4) (lv' := [(4, 0, (w32 (x5 + (-1)))), (3, 0, v13), (0, 2, 171), (1, 2, 14), (2, 0, r1), (5, 0, x11), (6, 0, x12)]) dX2_leastOfFarthest_105 rfl (by decide) rfl ?_
        refine z_goto (pc := 108) (tgt := 20) hR dX2_leastOfFarthest_108 (by decide) ?_
        refine z_pick (pc := 20) (lv' := [(0, 2, 171), (1, 2, 14), (2, 0, r1), (3, 0, v13), (4, 0, (w32 (x5 + (-1))))]) hR [2, 3, 4, 1, 0] rfl ?_
        exact hh20 (v13, (w32 (x5 + (-1))), M10)
      · refine z_iload (pc := 67) hR 5 dX2_leastOfFarthest_67 rfl ?_
        refine z_bipush (pc := 69) hR dX2_leastOfFarthest_69 rfl ?_
        refine z_imul (pc := 71) hR dX2_leastOfFarthest_71 ?_
        refine z_aload_n (pc := 72) hR 1 dX2_leastOfFarthest_72 rfl rfl ?_
        refine z_getr (pc := 73) hR (c0 := 7) (r := 21) jf_RX2_82 kxo_14 (by decide) rfl rfl dX2_leastOfFarthest_73 ?_
        refine z_getr (pc := 76) hR (c0 := 4) (r := 25) jf_RX2_107 kxo_21 (by decide) rfl rfl dX2_leastOfFarthest_76 ?_
        refine z_aload_n (pc := 79) hR 0 dX2_leastOfFarthest_79 rfl rfl ?_
        refine z_getr (pc := 80) hR (c0 := 3) (r := 174) jf_RX2_19 kxo_171 (by decide) rfl rfl dX2_leastOfFarthest_80 ?_
        refine z_iload (pc := 83) hR 6 dX2_leastOfFarthest_83 rfl ?_
        refine z_chk (fun hc14 => ?_)
        refine z_iald (pc := 85) hR (n := 7) kxa_174 hc14.1 hc14.2 dX2_leastOfFarthest_85 ?_
        refine z_chk (fun hc15 => ?_)
        refine z_iald (pc := 86) hR (n := 7) kxa_25 hc15.1 hc15.2 dX2_leastOfFarthest_86 ?_
        refine z_iadd (pc := 87) hR dX2_leastOfFarthest_87 ?_
        refine z_iconst (pc := 88) hR dX2_leastOfFarthest_88 rfl ?_
        refine z_iadd (pc := 89) hR dX2_leastOfFarthest_89 ?_
        refine z_let1 (fun v16 => ?_)
        refine z_istore (pc := 90) hR (lv' := [(5, 0, v16), (0, 2, 171), (1, 2, 14), (2, 0, r1), (3, 0, x4), (4, 0, x5), (6, 0, x12)]) dX2_leastOfFarthest_90 (by decide) rfl ?_
        refine z_iinc (pc := 92) hR (j := 6) (lv' := [(6, 0, (w32 (x12 + 1))), (5, 0, v16), (0, 2, 171), (1, 2, 14), (2, 0, r1), (3, 0, x4), (4, 0, x5)]) dX2_leastOfFarthest_92 rfl (by decide) rfl ?_
        refine z_goto (pc := 95) (tgt := 58) hR dX2_leastOfFarthest_95 (by decide) ?_
        refine z_pick (pc := 58) (lv' := [(0, 2, 171), (1, 2, 14), (2, 0, r1), (3, 0, x4), (4, 0, x5), (5, 0, v16), (6, 0, (w32 (x12 + 1)))]) hR [2, 3, 4, 5, 6, 1, 0] rfl ?_
        exact hh58 (v16, (w32 (x12 + 1)))
theorem dX11_farthest_0 : decode cX11_farthest 0 = .ok (.iload_n 1, 1) := by decide +kernel
theorem dX11_farthest_1 : decode cX11_farthest 1 = .ok (.iconst 0, 1) := by decide +kernel
theorem dX11_farthest_2 : decode cX11_farthest 2 = .ok (.iconst 1, 1) := by decide +kernel
theorem dX11_farthest_3 : decode cX11_farthest 3 = .ok (.invokestatic 137, 3) := by decide +kernel
theorem dX11_farthest_6 : decode cX11_farthest 6 = .ok (.ifCond .eq 10, 3) := by decide +kernel
theorem dX11_farthest_9 : decode cX11_farthest 9 = .ok (.aload_n 0, 1) := by decide +kernel
theorem dX11_farthest_10 : decode cX11_farthest 10 = .ok (.invokevirtual 177, 3) := by decide +kernel
theorem dX11_farthest_13 : decode cX11_farthest 13 = .ok (.ifCond .ne 5, 3) := by decide +kernel
theorem dX11_farthest_16 : decode cX11_farthest 16 = .ok (.iconst (-1), 1) := by decide +kernel
theorem dX11_farthest_17 : decode cX11_farthest 17 = .ok (.ireturn, 1) := by decide +kernel
theorem dX11_farthest_18 : decode cX11_farthest 18 = .ok (.iload_n 1, 1) := by decide +kernel
theorem dX11_farthest_19 : decode cX11_farthest 19 = .ok (.ifCond .ne 20, 3) := by decide +kernel
theorem dX11_farthest_22 : decode cX11_farthest 22 = .ok (.aload_n 0, 1) := by decide +kernel
theorem dX11_farthest_23 : decode cX11_farthest 23 = .ok (.getfield 75, 3) := by decide +kernel
theorem dX11_farthest_26 : decode cX11_farthest 26 = .ok (.aload_n 0, 1) := by decide +kernel
theorem dX11_farthest_27 : decode cX11_farthest 27 = .ok (.getfield 43, 3) := by decide +kernel
theorem dX11_farthest_30 : decode cX11_farthest 30 = .ok (.getfield 95, 3) := by decide +kernel
theorem dX11_farthest_33 : decode cX11_farthest 33 = .ok (.invokevirtual 260, 3) := by decide +kernel
theorem dX11_farthest_36 : decode cX11_farthest 36 = .ok (.goto 14, 3) := by decide +kernel
theorem dX11_farthest_39 : decode cX11_farthest 39 = .ok (.aload_n 0, 1) := by decide +kernel
theorem dX11_farthest_40 : decode cX11_farthest 40 = .ok (.getfield 75, 3) := by decide +kernel
theorem dX11_farthest_43 : decode cX11_farthest 43 = .ok (.aload_n 0, 1) := by decide +kernel
theorem dX11_farthest_44 : decode cX11_farthest 44 = .ok (.getfield 43, 3) := by decide +kernel
theorem dX11_farthest_47 : decode cX11_farthest 47 = .ok (.invokevirtual 263, 3) := by decide +kernel
theorem dX11_farthest_50 : decode cX11_farthest 50 = .ok (.ireturn, 1) := by decide +kernel
def x_farthest (N : Nat) (a1 : Int) (M : jMem) : Option (Int × jMem) := (x_isWithin N a1 0 1 M).bind fun r1 => (if r1 = 0 then some ((-1), M) else (x_hasParish N M).bind fun r2 => (if r2 = 0 then some ((-1), M) else (if a1 = 0 then jb1 (Li_most N M) fun r5 M6 => some (r5, M6) else jb1 (Li_leastOfFarthest N M) fun r3 M4 => some (r3, M4))))
theorem c_x_farthest {l : Launch} {g : jG} (N : Nat) (a1 : Int) (M : jMem)  : ∀ o, x_farthest N a1 M = some o → jCt l g jTX yX11_farthest cX11_farthest 2 (some .int) 0 13 [(2, 0), (0, a1)] M o := by
  refine jMet (own := RX11) (em := id) (L := [(0, 2, 0), (1, 0, a1)]) (by decide +kernel) rfl (Nat.le_of_ble_eq_true rfl) rfl (fun K hR => ?_)
  unfold x_farthest
  refine z_iload_n (pc := 0) hR 1 dX11_farthest_0 rfl rfl ?_
  refine z_iconst (pc := 1) hR dX11_farthest_1 rfl ?_
  refine z_iconst (pc := 2) hR dX11_farthest_2 rfl ?_
  refine z_callsp (pc := 3) hR (As := [(0, a1), (0, 0), (0, 1)]) (st := []) jm_X11_isWithin jl_RX11_137 (by decide) (c_x_isWithin N a1 0 1 M) rfl (by decide) (by decide) rfl (Nat.le_of_ble_eq_true rfl) dX11_farthest_3 (fun r1 => ?_)
  refine z_ifeq (pc := 6) (tgt := 16) hR dX11_farthest_6 (by decide) ?_ ?_
  · refine z_iconst (pc := 16) hR dX11_farthest_16 rfl ?_
    exact z_ireturn (pc := 17) hR rfl rfl dX11_farthest_17 rfl
  · refine z_aload_n (pc := 9) hR 0 dX11_farthest_9 rfl rfl ?_
    refine z_callvp (pc := 10) hR (As := []) (st := []) jm_X11_hasParish jl_RX11_177 kxo_0 (by decide) rfl (by decide) (c_x_hasParish N M) rfl (by decide) (by decide) rfl (Nat.le_of_ble_eq_true rfl) dX11_farthest_10 (fun r2 => ?_)
    refine z_ifne (pc := 13) (tgt := 18) hR dX11_farthest_13 (by decide) ?_ ?_
    · refine z_iload_n (pc := 18) hR 1 dX11_farthest_18 rfl rfl ?_
      refine z_ifne (pc := 19) (tgt := 39) hR dX11_farthest_19 (by decide) ?_ ?_
      · refine z_aload_n (pc := 39) hR 0 dX11_farthest_39 rfl rfl ?_
        refine z_getr (pc := 40) hR (c0 := 171) (r := 171) jf_RX11_75 kxo_0 (by decide) rfl rfl dX11_farthest_40 ?_
        refine z_aload_n (pc := 43) hR 0 dX11_farthest_43 rfl rfl ?_
        refine z_getr (pc := 44) hR (c0 := 14) (r := 14) jf_RX11_43 kxo_0 (by decide) rfl rfl dX11_farthest_44 ?_
        refine z_callv1 (pc := 47) hR (As := [(2, 14)]) (st := []) jm_X2_leastOfFarthest jl_RX11_263 kxo_171 (by decide) rfl (by decide) (c_Li_leastOfFarthest N M) rfl (by decide) (by decide) rfl (Nat.le_of_ble_eq_true rfl) dX11_farthest_47 (fun r3 M4 => ?_)
        exact z_ireturn (pc := 50) hR rfl rfl dX11_farthest_50 rfl
      · refine z_aload_n (pc := 22) hR 0 dX11_farthest_22 rfl rfl ?_
        refine z_getr (pc := 23) hR (c0 := 171) (r := 171) jf_RX11_75 kxo_0 (by decide) rfl rfl dX11_farthest_23 ?_
        refine z_aload_n (pc := 26) hR 0 dX11_farthest_26 rfl rfl ?_
        refine z_getr (pc := 27) hR (c0 := 14) (r := 14) jf_RX11_43 kxo_0 (by decide) rfl rfl dX11_farthest_27 ?_
        refine z_getr (pc := 30) hR (c0 := 1) (r := 15) jf_RX11_95 kxo_14 (by decide) rfl rfl dX11_farthest_30 ?_
        refine z_callv1 (pc := 33) hR (As := [(2, 15)]) (st := []) jm_X2_most jl_RX11_260 kxo_171 (by decide) rfl (by decide) (c_Li_most N M) rfl (by decide) (by decide) rfl (Nat.le_of_ble_eq_true rfl) dX11_farthest_33 (fun r5 M6 => ?_)
        refine z_goto (pc := 36) (tgt := 50) hR dX11_farthest_36 (by decide) ?_
        exact z_ireturn (pc := 50) hR rfl rfl dX11_farthest_50 rfl
    · refine z_iconst (pc := 16) hR dX11_farthest_16 rfl ?_
      exact z_ireturn (pc := 17) hR rfl rfl dX11_farthest_17 rfl
theorem dX4_weddingsBetween_0 : decode cX4_weddingsBetween 0 = .ok (.iconst 1, 1) := by decide +kernel
theorem dX4_weddingsBetween_1 : decode cX4_weddingsBetween 1 = .ok (.iload_n 1, 1) := by decide +kernel
theorem dX4_weddingsBetween_2 : decode cX4_weddingsBetween 2 = .ok (.ishl, 1) := by decide +kernel
theorem dX4_weddingsBetween_3 : decode cX4_weddingsBetween 3 = .ok (.istore_n 3, 1) := by decide +kernel
theorem dX4_weddingsBetween_4 : decode cX4_weddingsBetween 4 = .ok (.iconst 0, 1) := by decide +kernel
theorem dX4_weddingsBetween_5 : decode cX4_weddingsBetween 5 = .ok (.istore 4, 2) := by decide +kernel
theorem dX4_weddingsBetween_7 : decode cX4_weddingsBetween 7 = .ok (.iload 4, 2) := by decide +kernel
theorem dX4_weddingsBetween_9 : decode cX4_weddingsBetween 9 = .ok (.aload_n 0, 1) := by decide +kernel
theorem dX4_weddingsBetween_10 : decode cX4_weddingsBetween 10 = .ok (.getfield 27, 3) := by decide +kernel
theorem dX4_weddingsBetween_13 : decode cX4_weddingsBetween 13 = .ok (.if_icmp .ge 65, 3) := by decide +kernel
theorem dX4_weddingsBetween_16 : decode cX4_weddingsBetween 16 = .ok (.iload_n 3, 1) := by decide +kernel
theorem dX4_weddingsBetween_17 : decode cX4_weddingsBetween 17 = .ok (.iload_n 2, 1) := by decide +kernel
theorem dX4_weddingsBetween_18 : decode cX4_weddingsBetween 18 = .ok (.ishr, 1) := by decide +kernel
theorem dX4_weddingsBetween_19 : decode cX4_weddingsBetween 19 = .ok (.iconst 1, 1) := by decide +kernel
theorem dX4_weddingsBetween_20 : decode cX4_weddingsBetween 20 = .ok (.iand, 1) := by decide +kernel
theorem dX4_weddingsBetween_21 : decode cX4_weddingsBetween 21 = .ok (.ifCond .eq 6, 3) := by decide +kernel
theorem dX4_weddingsBetween_24 : decode cX4_weddingsBetween 24 = .ok (.iload 4, 2) := by decide +kernel
theorem dX4_weddingsBetween_26 : decode cX4_weddingsBetween 26 = .ok (.ireturn, 1) := by decide +kernel
theorem dX4_weddingsBetween_27 : decode cX4_weddingsBetween 27 = .ok (.iload_n 3, 1) := by decide +kernel
theorem dX4_weddingsBetween_28 : decode cX4_weddingsBetween 28 = .ok (.istore 5, 2) := by decide +kernel
theorem dX4_weddingsBetween_30 : decode cX4_weddingsBetween 30 = .ok (.iconst 0, 1) := by decide +kernel
theorem dX4_weddingsBetween_31 : decode cX4_weddingsBetween 31 = .ok (.istore 6, 2) := by decide +kernel
theorem dX4_weddingsBetween_33 : decode cX4_weddingsBetween 33 = .ok (.iload 6, 2) := by decide +kernel
theorem dX4_weddingsBetween_35 : decode cX4_weddingsBetween 35 = .ok (.aload_n 0, 1) := by decide +kernel
theorem dX4_weddingsBetween_36 : decode cX4_weddingsBetween 36 = .ok (.getfield 27, 3) := by decide +kernel
theorem dX4_weddingsBetween_39 : decode cX4_weddingsBetween 39 = .ok (.if_icmp .ge 30, 3) := by decide +kernel
theorem dX4_weddingsBetween_42 : decode cX4_weddingsBetween 42 = .ok (.iload_n 3, 1) := by decide +kernel
theorem dX4_weddingsBetween_43 : decode cX4_weddingsBetween 43 = .ok (.iload 6, 2) := by decide +kernel
theorem dX4_weddingsBetween_45 : decode cX4_weddingsBetween 45 = .ok (.ishr, 1) := by decide +kernel
theorem dX4_weddingsBetween_46 : decode cX4_weddingsBetween 46 = .ok (.iconst 1, 1) := by decide +kernel
theorem dX4_weddingsBetween_47 : decode cX4_weddingsBetween 47 = .ok (.iand, 1) := by decide +kernel
theorem dX4_weddingsBetween_48 : decode cX4_weddingsBetween 48 = .ok (.ifCond .eq 15, 3) := by decide +kernel
theorem dX4_weddingsBetween_51 : decode cX4_weddingsBetween 51 = .ok (.iload 5, 2) := by decide +kernel
theorem dX4_weddingsBetween_53 : decode cX4_weddingsBetween 53 = .ok (.aload_n 0, 1) := by decide +kernel
theorem dX4_weddingsBetween_54 : decode cX4_weddingsBetween 54 = .ok (.getfield 24, 3) := by decide +kernel
theorem dX4_weddingsBetween_57 : decode cX4_weddingsBetween 57 = .ok (.iload 6, 2) := by decide +kernel
theorem dX4_weddingsBetween_59 : decode cX4_weddingsBetween 59 = .ok (.iaload, 1) := by decide +kernel
theorem dX4_weddingsBetween_60 : decode cX4_weddingsBetween 60 = .ok (.ior, 1) := by decide +kernel
theorem dX4_weddingsBetween_61 : decode cX4_weddingsBetween 61 = .ok (.istore 5, 2) := by decide +kernel
theorem dX4_weddingsBetween_63 : decode cX4_weddingsBetween 63 = .ok (.iinc 6 1, 3) := by decide +kernel
theorem dX4_weddingsBetween_66 : decode cX4_weddingsBetween 66 = .ok (.goto (-33), 3) := by decide +kernel
theorem dX4_weddingsBetween_69 : decode cX4_weddingsBetween 69 = .ok (.iload 5, 2) := by decide +kernel
theorem dX4_weddingsBetween_71 : decode cX4_weddingsBetween 71 = .ok (.istore_n 3, 1) := by decide +kernel
theorem dX4_weddingsBetween_72 : decode cX4_weddingsBetween 72 = .ok (.iinc 4 1, 3) := by decide +kernel
theorem dX4_weddingsBetween_75 : decode cX4_weddingsBetween 75 = .ok (.goto (-68), 3) := by decide +kernel
theorem dX4_weddingsBetween_78 : decode cX4_weddingsBetween 78 = .ok (.bipush (-2), 2) := by decide +kernel
theorem dX4_weddingsBetween_80 : decode cX4_weddingsBetween 80 = .ok (.ireturn, 1) := by decide +kernel
def Pa_weddingsBetween_L33 (N : Nat) (q : Int) (M : jMem) (x2 : Int) (x3 : Int) (h7 : (Int × Int) → Option Int) (h33 : (Int × Int) → Option Int) : Int × Int → Option Int
  | (x4, x5) => (if x5 < (M q 0) then (if (jand ((jshr x2 x5)) 1) = 0 then h33 (x4, (w32 (x5 + 1))) else jchk (0 ≤ x5 ∧ x5 < 7) <| jlt ((jor x4 ((M ((q + 5)) x5)))) fun v7 => h33 (v7, (w32 (x5 + 1)))) else h7 (x4, (w32 (x3 + 1))))
def Pa_weddingsBetween_L7 (N : Nat) (q : Int) (a2 : Int) (M : jMem) (h7 : (Int × Int) → Option Int) : Int × Int → Option Int
  | (x2, x3) => (if x3 < (M q 0) then (if (jand ((jshr x2 a2)) 1) = 0 then jfix N (Pa_weddingsBetween_L33 N q M x2 x3 h7) (x2, 0) else some x3) else some ((-2)))
def Pa_weddingsBetween (N : Nat) (q a1 a2 : Int) (M : jMem) : Option Int := jlt ((jshl 1 a1)) fun v1 => jfix N (Pa_weddingsBetween_L7 N q a2 M) (v1, 0)
theorem c_Pa_weddingsBetween {l : Launch} {g : jG} (N : Nat) (q a1 a2 : Int) (M : jMem) (hq : jk jTX q 4) : ∀ o, Pa_weddingsBetween N q a1 a2 M = some o → jCt l g jTX yX4_weddingsBetween cX4_weddingsBetween 7 (some .int) 0 1 [(2, q), (0, a1), (0, a2)] M (o, M) := by
  refine jMet (own := RX4) (em := (fun r => (r, M))) (L := [(0, 2, q), (1, 0, a1), (2, 0, a2)]) (by decide +kernel) rfl (Nat.le_of_ble_eq_true rfl) rfl (fun K hR => ?_)
  unfold Pa_weddingsBetween
  refine z_iconst (pc := 0) hR dX4_weddingsBetween_0 rfl ?_
  refine z_iload_n (pc := 1) hR 1 dX4_weddingsBetween_1 rfl rfl ?_
  refine z_ishl (pc := 2) hR dX4_weddingsBetween_2 ?_
  refine z_let1 (fun v1 => ?_)
  refine z_istore_n (pc := 3) hR (lv' := [(3, 0, v1), (0, 2, q), (1, 0, a1), (2, 0, a2)]) dX4_weddingsBetween_3 rfl (by decide) rfl ?_
  refine z_iconst (pc := 4) hR dX4_weddingsBetween_4 rfl ?_
  refine z_istore (pc := 5) hR (lv' := [(4, 0, 0), (3, 0, v1), (0, 2, q), (1, 0, a1), (2, 0, a2)]) dX4_weddingsBetween_5 (by decide) rfl ?_
  refine z_pick (pc := 7) (lv' := [(0, 2, q), (2, 0, a2), (3, 0, v1), (4, 0, 0)]) hR [2, 4, 1, 0] rfl ?_
  refine z_fix (σ := Int × Int) (lv := fun s => [(0, 2, q), (2, 0, a2), (3, 0, s.1), (4, 0, s.2)]) (st := fun _ => []) (M := fun _ => M) (fun h7 hh7 => ?_) N (v1, 0)
  rintro ⟨x2, x3⟩
  show jZ K (fun r => (r, M)) 7 [(0, 2, q), (2, 0, a2), (3, 0, x2), (4, 0, x3)] [] M _
  unfold Pa_weddingsBetween_L7
  refine z_iload (pc := 7) hR 3 dX4_weddingsBetween_7 rfl ?_
  refine z_aload_n (pc := 9) hR 0 dX4_weddingsBetween_9 rfl rfl ?_
  refine z_geti (pc := 10) hR (j := 0) jf_RX4_27 hq (by decide) rfl rfl dX4_weddingsBetween_10 ?_
  refine z_icmpge (pc := 13) (tgt := 78) hR dX4_weddingsBetween_13 (by decide) ?_ ?_
  · refine z_bipush (pc := 78) hR dX4_weddingsBetween_78 rfl ?_
    exact z_ireturn (pc := 80) hR rfl rfl dX4_weddingsBetween_80 rfl
  · refine z_iload_n (pc := 16) hR 2 dX4_weddingsBetween_16 rfl rfl ?_
    refine z_iload_n (pc := 17) hR 1 dX4_weddingsBetween_17 rfl rfl ?_
    refine z_ishr (pc := 18) hR dX4_weddingsBetween_18 ?_
    refine z_iconst (pc := 19) hR dX4_weddingsBetween_19 rfl ?_
    refine z_iand (pc := 20) hR dX4_weddingsBetween_20 ?_
    refine z_ifeq (pc := 21) (tgt := 27) hR dX4_weddingsBetween_21 (by decide) ?_ ?_
    · refine z_iload_n (pc := 27) hR 2 dX4_weddingsBetween_27 rfl rfl ?_
      refine z_istore (pc := 28) hR (lv' := [(5, 0, x2), (0, 2, q), (2, 0, a2), (3, 0, x2), (4, 0, x3)]) dX4_weddingsBetween_28 (by decide) rfl ?_
      refine z_iconst (pc := 30) hR dX4_weddingsBetween_30 rfl ?_
      refine z_istore (pc := 31) hR (lv' := [(6, 0, 0), (5, 0, x2), (0, 2, q), (2, 0, a2), (3, 0, x2), (4, 0, x3)]) dX4_weddingsBetween_31 (by decide) rfl ?_
      refine z_pick (pc := 33) (lv' := [(0, 2, q), (2, 0, a2), (3, 0, x2), (4, 0, x3), (5, 0, x2), (6, 0, 0)]) hR [2, 3, 4, 5, 1, 0] rfl ?_
      refine z_fix (σ := Int × Int) (lv := fun s => [(0, 2, q), (2, 0, a2), (3, 0, x2), (4, 0, x3), (5, 0, s.1), (6, 0, s.2)]) (st := fun _ => []) (M := fun _ => M) (fun h33 hh33 => ?_) N (x2, 0)
      rintro ⟨x4, x5⟩
      show jZ K (fun r => (r, M)) 33 [(0, 2, q), (2, 0, a2), (3, 0, x2), (4, 0, x3), (5, 0, x4), (6, 0, x5)] [] M _
      unfold Pa_weddingsBetween_L33
      refine z_iload (pc := 33) hR 5 dX4_weddingsBetween_33 rfl ?_
      refine z_aload_n (pc := 35) hR 0 dX4_weddingsBetween_35 rfl rfl ?_
      refine z_geti (pc := 36) hR (j := 0) jf_RX4_27 hq (by decide) rfl rfl dX4_weddingsBetween_36 ?_
      refine z_icmpge (pc := 39) (tgt := 69) hR dX4_weddingsBetween_39 (by decide) ?_ ?_
      · refine z_iload (pc := 69) hR 4 dX4_weddingsBetween_69 rfl ?_
        refine z_istore_n (pc := 71) hR (lv' := [(3, 0, x4), (0, 2, q), (2, 0, a2), (4, 0, x3), (5, 0, x4), (6, 0, x5)]) dX4_weddingsBetween_71 rfl (by decide) rfl ?_
        refine z_iinc (pc := 72) hR (j := 3) (lv' := [(4, 0, (w32 (x3 + 1))), (3, 0, x4), (0, 2, q), (2, 0, a2), (5, 0, x4), (6, 0, x5)]) dX4_weddingsBetween_72 rfl (by decide) rfl ?_
        refine z_goto (pc := 75) (tgt := 7) hR dX4_weddingsBetween_75 (by decide) ?_
        refine z_pick (pc := 7) (lv' := [(0, 2, q), (2, 0, a2), (3, 0, x4), (4, 0, (w32 (x3 + 1)))]) hR [2, 3, 1, 0] rfl ?_
        exact hh7 (x4, (w32 (x3 + 1)))
      · refine z_iload_n (pc := 42) hR 2 dX4_weddingsBetween_42 rfl rfl ?_
        refine z_iload (pc := 43) hR 5 dX4_weddingsBetween_43 rfl ?_
        refine z_ishr (pc := 45) hR dX4_weddingsBetween_45 ?_
        refine z_iconst (pc := 46) hR dX4_weddingsBetween_46 rfl ?_
        refine z_iand (pc := 47) hR dX4_weddingsBetween_47 ?_
        refine z_ifeq (pc := 48) (tgt := 63) hR dX4_weddingsBetween_48 (by decide) ?_ ?_
        · refine z_iinc (pc := 63) hR (j := 5) (lv' := [(6, 0, (w32 (x5 + 1))), (0, 2, q), (2, 0, a2), (3, 0, x2), (4, 0, x3), (5, 0, x4)]) dX4_weddingsBetween_63 rfl (by decide) rfl ?_
          refine z_goto (pc := 66) (tgt := 33) hR dX4_weddingsBetween_66 (by decide) ?_
          refine z_pick (pc := 33) (lv' := [(0, 2, q), (2, 0, a2), (3, 0, x2), (4, 0, x3), (5, 0, x4), (6, 0, (w32 (x5 + 1)))]) hR [1, 2, 3, 4, 5, 0] rfl ?_
          exact hh33 (x4, (w32 (x5 + 1)))
        · refine z_iload (pc := 51) hR 4 dX4_weddingsBetween_51 rfl ?_
          refine z_aload_n (pc := 53) hR 0 dX4_weddingsBetween_53 rfl rfl ?_
          refine z_getr (pc := 54) hR (c0 := 5) (r := (q + 5)) jf_RX4_24 hq (by decide) rfl rfl dX4_weddingsBetween_54 ?_
          refine z_iload (pc := 57) hR 5 dX4_weddingsBetween_57 rfl ?_
          refine z_chk (fun hc6 => ?_)
          refine z_iald (pc := 59) hR (n := 7) (kf_4_kin hq) hc6.1 hc6.2 dX4_weddingsBetween_59 ?_
          refine z_ior (pc := 60) hR dX4_weddingsBetween_60 ?_
          refine z_let1 (fun v7 => ?_)
          refine z_istore (pc := 61) hR (lv' := [(5, 0, v7), (0, 2, q), (2, 0, a2), (3, 0, x2), (4, 0, x3), (6, 0, x5)]) dX4_weddingsBetween_61 (by decide) rfl ?_
          refine z_iinc (pc := 63) hR (j := 5) (lv' := [(6, 0, (w32 (x5 + 1))), (5, 0, v7), (0, 2, q), (2, 0, a2), (3, 0, x2), (4, 0, x3)]) dX4_weddingsBetween_63 rfl (by decide) rfl ?_
          refine z_goto (pc := 66) (tgt := 33) hR dX4_weddingsBetween_66 (by decide) ?_
          refine z_pick (pc := 33) (lv' := [(0, 2, q), (2, 0, a2), (3, 0, x2), (4, 0, x3), (5, 0, v7), (6, 0, (w32 (x5 + 1)))]) hR [2, 3, 4, 5, 1, 0] rfl ?_
          exact hh33 (v7, (w32 (x5 + 1)))
    · refine z_iload (pc := 24) hR 3 dX4_weddingsBetween_24 rfl ?_
      exact z_ireturn (pc := 26) hR rfl rfl dX4_weddingsBetween_26 rfl
theorem dX11_comes_0 : decode cX11_comes 0 = .ok (.aload_n 0, 1) := by decide +kernel
theorem dX11_comes_1 : decode cX11_comes 1 = .ok (.iload_n 1, 1) := by decide +kernel
theorem dX11_comes_2 : decode cX11_comes 2 = .ok (.invokevirtual 144, 3) := by decide +kernel
theorem dX11_comes_5 : decode cX11_comes 5 = .ok (.ifCond .eq 11, 3) := by decide +kernel
theorem dX11_comes_8 : decode cX11_comes 8 = .ok (.aload_n 0, 1) := by decide +kernel
theorem dX11_comes_9 : decode cX11_comes 9 = .ok (.iload_n 2, 1) := by decide +kernel
theorem dX11_comes_10 : decode cX11_comes 10 = .ok (.invokevirtual 162, 3) := by decide +kernel
theorem dX11_comes_13 : decode cX11_comes 13 = .ok (.ifCond .ne 5, 3) := by decide +kernel
theorem dX11_comes_16 : decode cX11_comes 16 = .ok (.iconst (-1), 1) := by decide +kernel
theorem dX11_comes_17 : decode cX11_comes 17 = .ok (.ireturn, 1) := by decide +kernel
theorem dX11_comes_18 : decode cX11_comes 18 = .ok (.aload_n 0, 1) := by decide +kernel
theorem dX11_comes_19 : decode cX11_comes 19 = .ok (.getfield 43, 3) := by decide +kernel
theorem dX11_comes_22 : decode cX11_comes 22 = .ok (.getfield 95, 3) := by decide +kernel
theorem dX11_comes_25 : decode cX11_comes 25 = .ok (.aload_n 0, 1) := by decide +kernel
theorem dX11_comes_26 : decode cX11_comes 26 = .ok (.getfield 43, 3) := by decide +kernel
theorem dX11_comes_29 : decode cX11_comes 29 = .ok (.getfield 102, 3) := by decide +kernel
theorem dX11_comes_32 : decode cX11_comes 32 = .ok (.iload_n 1, 1) := by decide +kernel
theorem dX11_comes_33 : decode cX11_comes 33 = .ok (.invokevirtual 158, 3) := by decide +kernel
theorem dX11_comes_36 : decode cX11_comes 36 = .ok (.iload_n 2, 1) := by decide +kernel
theorem dX11_comes_37 : decode cX11_comes 37 = .ok (.invokevirtual 267, 3) := by decide +kernel
theorem dX11_comes_40 : decode cX11_comes 40 = .ok (.ireturn, 1) := by decide +kernel
def x_comes (N : Nat) (a1 a2 : Int) (M : jMem) : Option Int := (x_isWell N a1 M).bind fun r1 => (if r1 = 0 then some ((-1)) else (x_isFarm N a2 M).bind fun r2 => (if r2 = 0 then some ((-1)) else (St_farmThatHas N 21 a1 M).bind fun r3 => (Pa_weddingsBetween N 15 r3 a2 M).bind fun r4 => some r4))
theorem c_x_comes {l : Launch} {g : jG} (N : Nat) (a1 a2 : Int) (M : jMem)  : ∀ o, x_comes N a1 a2 M = some o → jCt l g jTX yX11_comes cX11_comes 3 (some .int) 0 5 [(2, 0), (0, a1), (0, a2)] M (o, M) := by
  refine jMet (own := RX11) (em := (fun r => (r, M))) (L := [(0, 2, 0), (1, 0, a1), (2, 0, a2)]) (by decide +kernel) rfl (Nat.le_of_ble_eq_true rfl) rfl (fun K hR => ?_)
  unfold x_comes
  refine z_aload_n (pc := 0) hR 0 dX11_comes_0 rfl rfl ?_
  refine z_iload_n (pc := 1) hR 1 dX11_comes_1 rfl rfl ?_
  refine z_callvp (pc := 2) hR (As := [(0, a1)]) (st := []) jm_X11_isWell jl_RX11_144 kxo_0 (by decide) rfl (by decide) (c_x_isWell N a1 M) rfl (by decide) (by decide) rfl (Nat.le_of_ble_eq_true rfl) dX11_comes_2 (fun r1 => ?_)
  refine z_ifeq (pc := 5) (tgt := 16) hR dX11_comes_5 (by decide) ?_ ?_
  · refine z_iconst (pc := 16) hR dX11_comes_16 rfl ?_
    exact z_ireturn (pc := 17) hR rfl rfl dX11_comes_17 rfl
  · refine z_aload_n (pc := 8) hR 0 dX11_comes_8 rfl rfl ?_
    refine z_iload_n (pc := 9) hR 2 dX11_comes_9 rfl rfl ?_
    refine z_callvp (pc := 10) hR (As := [(0, a2)]) (st := []) jm_X11_isFarm jl_RX11_162 kxo_0 (by decide) rfl (by decide) (c_x_isFarm N a2 M) rfl (by decide) (by decide) rfl (Nat.le_of_ble_eq_true rfl) dX11_comes_10 (fun r2 => ?_)
    refine z_ifne (pc := 13) (tgt := 18) hR dX11_comes_13 (by decide) ?_ ?_
    · refine z_aload_n (pc := 18) hR 0 dX11_comes_18 rfl rfl ?_
      refine z_getr (pc := 19) hR (c0 := 14) (r := 14) jf_RX11_43 kxo_0 (by decide) rfl rfl dX11_comes_19 ?_
      refine z_getr (pc := 22) hR (c0 := 1) (r := 15) jf_RX11_95 kxo_14 (by decide) rfl rfl dX11_comes_22 ?_
      refine z_aload_n (pc := 25) hR 0 dX11_comes_25 rfl rfl ?_
      refine z_getr (pc := 26) hR (c0 := 14) (r := 14) jf_RX11_43 kxo_0 (by decide) rfl rfl dX11_comes_26 ?_
      refine z_getr (pc := 29) hR (c0 := 7) (r := 21) jf_RX11_102 kxo_14 (by decide) rfl rfl dX11_comes_29 ?_
      refine z_iload_n (pc := 32) hR 1 dX11_comes_32 rfl rfl ?_
      refine z_callvp (pc := 33) hR (As := [(0, a1)]) (st := [(2, 15)]) jm_X7_farmThatHas jl_RX11_158 kxo_21 (by decide) rfl (by decide) (c_St_farmThatHas N 21 a1 M kxo_21) rfl (by decide) (by decide) rfl (Nat.le_of_ble_eq_true rfl) dX11_comes_33 (fun r3 => ?_)
      refine z_iload_n (pc := 36) hR 2 dX11_comes_36 rfl rfl ?_
      refine z_callvp (pc := 37) hR (As := [(0, r3), (0, a2)]) (st := []) jm_X4_weddingsBetween jl_RX11_267 kxo_15 (by decide) rfl (by decide) (c_Pa_weddingsBetween N 15 r3 a2 M kxo_15) rfl (by decide) (by decide) rfl (Nat.le_of_ble_eq_true rfl) dX11_comes_37 (fun r4 => ?_)
      exact z_ireturn (pc := 40) hR rfl rfl dX11_comes_40 rfl
    · refine z_iconst (pc := 16) hR dX11_comes_16 rfl ?_
      exact z_ireturn (pc := 17) hR rfl rfl dX11_comes_17 rfl
