theorem dX11_putFour_0 : decode cX11_putFour 0 = .ok (.bipush 24, 2) := by decide +kernel
theorem dX11_putFour_2 : decode cX11_putFour 2 = .ok (.istore_n 2, 1) := by decide +kernel
theorem dX11_putFour_3 : decode cX11_putFour 3 = .ok (.iload_n 2, 1) := by decide +kernel
theorem dX11_putFour_4 : decode cX11_putFour 4 = .ok (.ifCond .lt 32, 3) := by decide +kernel
theorem dX11_putFour_7 : decode cX11_putFour 7 = .ok (.aload_n 0, 1) := by decide +kernel
theorem dX11_putFour_8 : decode cX11_putFour 8 = .ok (.getfield 9, 3) := by decide +kernel
theorem dX11_putFour_11 : decode cX11_putFour 11 = .ok (.aload_n 0, 1) := by decide +kernel
theorem dX11_putFour_12 : decode cX11_putFour 12 = .ok (.getfield 80, 3) := by decide +kernel
theorem dX11_putFour_15 : decode cX11_putFour 15 = .ok (.iload_n 1, 1) := by decide +kernel
theorem dX11_putFour_16 : decode cX11_putFour 16 = .ok (.iload_n 2, 1) := by decide +kernel
theorem dX11_putFour_17 : decode cX11_putFour 17 = .ok (.ishr, 1) := by decide +kernel
theorem dX11_putFour_18 : decode cX11_putFour 18 = .ok (.i2b, 1) := by decide +kernel
theorem dX11_putFour_19 : decode cX11_putFour 19 = .ok (.bastore, 1) := by decide +kernel
theorem dX11_putFour_20 : decode cX11_putFour 20 = .ok (.aload_n 0, 1) := by decide +kernel
theorem dX11_putFour_21 : decode cX11_putFour 21 = .ok (.dup, 1) := by decide +kernel
theorem dX11_putFour_22 : decode cX11_putFour 22 = .ok (.getfield 80, 3) := by decide +kernel
theorem dX11_putFour_25 : decode cX11_putFour 25 = .ok (.iconst 1, 1) := by decide +kernel
theorem dX11_putFour_26 : decode cX11_putFour 26 = .ok (.iadd, 1) := by decide +kernel
theorem dX11_putFour_27 : decode cX11_putFour 27 = .ok (.putfield 80, 3) := by decide +kernel
theorem dX11_putFour_30 : decode cX11_putFour 30 = .ok (.iinc 2 (-8), 3) := by decide +kernel
theorem dX11_putFour_33 : decode cX11_putFour 33 = .ok (.goto (-30), 3) := by decide +kernel
theorem dX11_putFour_36 : decode cX11_putFour 36 = .ok (.return_, 1) := by decide +kernel
def x_putFour_L3 (N : Nat) (a1 : Int) (h3 : (Int × jMem) → Option (Int × jMem)) : Int × jMem → Option (Int × jMem)
  | (x1, M2) => (if x1 < 0 then some (0, M2) else jchk (0 ≤ (M2 0 1) ∧ (M2 0 1) < 400) <| jlt (up M2 1 ((M2 0 1)) (w8 ((w8 ((jshr a1 x1)))))) fun M4 => jlt (up M4 0 1 ((w32 (((M4 0 1)) + 1)))) fun M5 => h3 ((w32 (x1 + (-8))), M5))
def x_putFour (N : Nat) (a1 : Int) (M : jMem) : Option (Int × jMem) := jfix N (x_putFour_L3 N a1) (24, M)
theorem c_x_putFour {l : Launch} {g : jG} (N : Nat) (a1 : Int) (M : jMem)  : ∀ o, x_putFour N a1 M = some o → jCt l g jTX yX11_putFour cX11_putFour 3 none 3 1 [(2, 0), (0, a1)] M o := by
  refine jMet (own := RX11) (em := id) (L := [(0, 2, 0), (1, 0, a1)]) (by decide +kernel) rfl (Nat.le_of_ble_eq_true rfl) rfl (fun K hR => ?_)
  unfold x_putFour
  refine z_bipush (pc := 0) hR dX11_putFour_0 rfl ?_
  refine z_istore_n (pc := 2) hR (lv' := [(2, 0, 24), (0, 2, 0), (1, 0, a1)]) dX11_putFour_2 rfl (by decide) rfl ?_
  refine z_pick (pc := 3) (lv' := [(0, 2, 0), (1, 0, a1), (2, 0, 24)]) hR [1, 2, 0] rfl ?_
  refine z_fix (σ := Int × jMem) (lv := fun s => [(0, 2, 0), (1, 0, a1), (2, 0, s.1)]) (st := fun _ => []) (M := fun s => s.2) (fun h3 hh3 => ?_) N (24, M)
  rintro ⟨x1, M2⟩
  show jZ K id 3 [(0, 2, 0), (1, 0, a1), (2, 0, x1)] [] M2 _
  unfold x_putFour_L3
  refine z_iload_n (pc := 3) hR 2 dX11_putFour_3 rfl rfl ?_
  refine z_iflt (pc := 4) (tgt := 36) hR dX11_putFour_4 (by decide) ?_ ?_
  · exact z_return (x := 0) (pc := 36) hR rfl rfl dX11_putFour_36 rfl
  · refine z_aload_n (pc := 7) hR 0 dX11_putFour_7 rfl rfl ?_
    refine z_getr (pc := 8) hR (c0 := 1) (r := 1) jf_RX11_9 kxo_0 (by decide) rfl rfl dX11_putFour_8 ?_
    refine z_aload_n (pc := 11) hR 0 dX11_putFour_11 rfl rfl ?_
    refine z_geti (pc := 12) hR (j := 1) jf_RX11_80 kxo_0 (by decide) rfl rfl dX11_putFour_12 ?_
    refine z_iload_n (pc := 15) hR 1 dX11_putFour_15 rfl rfl ?_
    refine z_iload_n (pc := 16) hR 2 dX11_putFour_16 rfl rfl ?_
    refine z_ishr (pc := 17) hR dX11_putFour_17 ?_
    refine z_i2b (pc := 18) hR dX11_putFour_18 ?_
    refine z_chk (fun hc3 => ?_)
    refine z_bast (pc := 19) hR (n := 400) kxa_1 hc3.1 hc3.2 dX11_putFour_19 (fun M4 => ?_)
    refine z_aload_n (pc := 20) hR 0 dX11_putFour_20 rfl rfl ?_
    refine z_dup (pc := 21) hR dX11_putFour_21 (by decide) ?_
    refine z_geti (pc := 22) hR (j := 1) jf_RX11_80 kxo_0 (by decide) rfl rfl dX11_putFour_22 ?_
    refine z_iconst (pc := 25) hR dX11_putFour_25 rfl ?_
    refine z_iadd (pc := 26) hR dX11_putFour_26 ?_
    refine z_puti (pc := 27) hR (j := 1) jp_RX11_80 kxo_0 (by decide) rfl rfl rfl rfl dX11_putFour_27 (fun M5 => ?_)
    refine z_iinc (pc := 30) hR (j := 2) (lv' := [(2, 0, (w32 (x1 + (-8)))), (0, 2, 0), (1, 0, a1)]) dX11_putFour_30 rfl (by decide) rfl ?_
    refine z_goto (pc := 33) (tgt := 3) hR dX11_putFour_33 (by decide) ?_
    refine z_pick (pc := 3) (lv' := [(0, 2, 0), (1, 0, a1), (2, 0, (w32 (x1 + (-8))))]) hR [1, 2, 0] rfl ?_
    exact hh3 ((w32 (x1 + (-8))), M5)
theorem dX11_feed_0 : decode cX11_feed 0 = .ok (.aload_n 0, 1) := by decide +kernel
theorem dX11_feed_1 : decode cX11_feed 1 = .ok (.getfield 80, 3) := by decide +kernel
theorem dX11_feed_4 : decode cX11_feed 4 = .ok (.bipush 20, 2) := by decide +kernel
theorem dX11_feed_6 : decode cX11_feed 6 = .ok (.iadd, 1) := by decide +kernel
theorem dX11_feed_7 : decode cX11_feed 7 = .ok (.sipush 400, 3) := by decide +kernel
theorem dX11_feed_10 : decode cX11_feed 10 = .ok (.if_icmp .le 5, 3) := by decide +kernel
theorem dX11_feed_13 : decode cX11_feed 13 = .ok (.iconst (-1), 1) := by decide +kernel
theorem dX11_feed_14 : decode cX11_feed 14 = .ok (.ireturn, 1) := by decide +kernel
theorem dX11_feed_15 : decode cX11_feed 15 = .ok (.aload_n 0, 1) := by decide +kernel
theorem dX11_feed_16 : decode cX11_feed 16 = .ok (.iload_n 1, 1) := by decide +kernel
theorem dX11_feed_17 : decode cX11_feed 17 = .ok (.invokevirtual 84, 3) := by decide +kernel
theorem dX11_feed_20 : decode cX11_feed 20 = .ok (.aload_n 0, 1) := by decide +kernel
theorem dX11_feed_21 : decode cX11_feed 21 = .ok (.iload_n 2, 1) := by decide +kernel
theorem dX11_feed_22 : decode cX11_feed 22 = .ok (.invokevirtual 84, 3) := by decide +kernel
theorem dX11_feed_25 : decode cX11_feed 25 = .ok (.aload_n 0, 1) := by decide +kernel
theorem dX11_feed_26 : decode cX11_feed 26 = .ok (.iload_n 3, 1) := by decide +kernel
theorem dX11_feed_27 : decode cX11_feed 27 = .ok (.invokevirtual 84, 3) := by decide +kernel
theorem dX11_feed_30 : decode cX11_feed 30 = .ok (.aload_n 0, 1) := by decide +kernel
theorem dX11_feed_31 : decode cX11_feed 31 = .ok (.iload 4, 2) := by decide +kernel
theorem dX11_feed_33 : decode cX11_feed 33 = .ok (.invokevirtual 84, 3) := by decide +kernel
theorem dX11_feed_36 : decode cX11_feed 36 = .ok (.aload_n 0, 1) := by decide +kernel
theorem dX11_feed_37 : decode cX11_feed 37 = .ok (.iload 5, 2) := by decide +kernel
theorem dX11_feed_39 : decode cX11_feed 39 = .ok (.invokevirtual 84, 3) := by decide +kernel
theorem dX11_feed_42 : decode cX11_feed 42 = .ok (.aload_n 0, 1) := by decide +kernel
theorem dX11_feed_43 : decode cX11_feed 43 = .ok (.getfield 80, 3) := by decide +kernel
theorem dX11_feed_46 : decode cX11_feed 46 = .ok (.ireturn, 1) := by decide +kernel
def x_feed (N : Nat) (a1 a2 a3 a4 a5 : Int) (M : jMem) : Option (Int × jMem) := (if 400 < (w32 (((M 0 1)) + 20)) then some ((-1), M) else jbv (x_putFour N a1 M) fun M1 => jbv (x_putFour N a2 M1) fun M2 => jbv (x_putFour N a3 M2) fun M3 => jbv (x_putFour N a4 M3) fun M4 => jbv (x_putFour N a5 M4) fun M5 => some ((M5 0 1), M5))
theorem c_x_feed {l : Launch} {g : jG} (N : Nat) (a1 a2 a3 a4 a5 : Int) (M : jMem)  : ∀ o, x_feed N a1 a2 a3 a4 a5 M = some o → jCt l g jTX yX11_feed cX11_feed 6 (some .int) 0 3 [(2, 0), (0, a1), (0, a2), (0, a3), (0, a4), (0, a5)] M o := by
  refine jMet (own := RX11) (em := id) (L := [(0, 2, 0), (1, 0, a1), (2, 0, a2), (3, 0, a3), (4, 0, a4), (5, 0, a5)]) (by decide +kernel) rfl (Nat.le_of_ble_eq_true rfl) rfl (fun K hR => ?_)
  unfold x_feed
  refine z_aload_n (pc := 0) hR 0 dX11_feed_0 rfl rfl ?_
  refine z_geti (pc := 1) hR (j := 1) jf_RX11_80 kxo_0 (by decide) rfl rfl dX11_feed_1 ?_
  refine z_bipush (pc := 4) hR dX11_feed_4 rfl ?_
  refine z_iadd (pc := 6) hR dX11_feed_6 ?_
  refine z_sipush (pc := 7) hR dX11_feed_7 rfl ?_
  refine z_icmple (pc := 10) (tgt := 15) hR dX11_feed_10 (by decide) ?_ ?_
  · refine z_aload_n (pc := 15) hR 0 dX11_feed_15 rfl rfl ?_
    refine z_iload_n (pc := 16) hR 1 dX11_feed_16 rfl rfl ?_
    refine z_callv0 (pc := 17) (rk' := 3) hR (As := [(0, a1)]) (st := []) jm_X11_putFour jl_RX11_84 kxo_0 (by decide) rfl (c_x_putFour N a1 M) rfl (by decide) (by decide) rfl (Nat.le_of_ble_eq_true rfl) dX11_feed_17 (fun M1 => ?_)
    refine z_aload_n (pc := 20) hR 0 dX11_feed_20 rfl rfl ?_
    refine z_iload_n (pc := 21) hR 2 dX11_feed_21 rfl rfl ?_
    refine z_callv0 (pc := 22) (rk' := 3) hR (As := [(0, a2)]) (st := []) jm_X11_putFour jl_RX11_84 kxo_0 (by decide) rfl (c_x_putFour N a2 M1) rfl (by decide) (by decide) rfl (Nat.le_of_ble_eq_true rfl) dX11_feed_22 (fun M2 => ?_)
    refine z_aload_n (pc := 25) hR 0 dX11_feed_25 rfl rfl ?_
    refine z_iload_n (pc := 26) hR 3 dX11_feed_26 rfl rfl ?_
    refine z_callv0 (pc := 27) (rk' := 3) hR (As := [(0, a3)]) (st := []) jm_X11_putFour jl_RX11_84 kxo_0 (by decide) rfl (c_x_putFour N a3 M2) rfl (by decide) (by decide) rfl (Nat.le_of_ble_eq_true rfl) dX11_feed_27 (fun M3 => ?_)
    refine z_aload_n (pc := 30) hR 0 dX11_feed_30 rfl rfl ?_
    refine z_iload (pc := 31) hR 4 dX11_feed_31 rfl ?_
    refine z_callv0 (pc := 33) (rk' := 3) hR (As := [(0, a4)]) (st := []) jm_X11_putFour jl_RX11_84 kxo_0 (by decide) rfl (c_x_putFour N a4 M3) rfl (by decide) (by decide) rfl (Nat.le_of_ble_eq_true rfl) dX11_feed_33 (fun M4 => ?_)
    refine z_aload_n (pc := 36) hR 0 dX11_feed_36 rfl rfl ?_
    refine z_iload (pc := 37) hR 5 dX11_feed_37 rfl ?_
    refine z_callv0 (pc := 39) (rk' := 3) hR (As := [(0, a5)]) (st := []) jm_X11_putFour jl_RX11_84 kxo_0 (by decide) rfl (c_x_putFour N a5 M4) rfl (by decide) (by decide) rfl (Nat.le_of_ble_eq_true rfl) dX11_feed_39 (fun M5 => ?_)
    refine z_aload_n (pc := 42) hR 0 dX11_feed_42 rfl rfl ?_
    refine z_geti (pc := 43) hR (j := 1) jf_RX11_80 kxo_0 (by decide) rfl rfl dX11_feed_43 ?_
    exact z_ireturn (pc := 46) hR rfl rfl dX11_feed_46 rfl
  · refine z_iconst (pc := 13) hR dX11_feed_13 rfl ?_
    exact z_ireturn (pc := 14) hR rfl rfl dX11_feed_14 rfl
theorem dX11_end_0 : decode cX11_end 0 = .ok (.iload_n 1, 1) := by decide +kernel
theorem dX11_end_1 : decode cX11_end 1 = .ok (.ifCond .lt 11, 3) := by decide +kernel
theorem dX11_end_4 : decode cX11_end 4 = .ok (.iload_n 1, 1) := by decide +kernel
theorem dX11_end_5 : decode cX11_end 5 = .ok (.aload_n 0, 1) := by decide +kernel
theorem dX11_end_6 : decode cX11_end 6 = .ok (.getfield 80, 3) := by decide +kernel
theorem dX11_end_9 : decode cX11_end 9 = .ok (.if_icmp .le 5, 3) := by decide +kernel
theorem dX11_end_12 : decode cX11_end 12 = .ok (.iconst (-1), 1) := by decide +kernel
theorem dX11_end_13 : decode cX11_end 13 = .ok (.ireturn, 1) := by decide +kernel
theorem dX11_end_14 : decode cX11_end 14 = .ok (.aload_n 0, 1) := by decide +kernel
theorem dX11_end_15 : decode cX11_end 15 = .ok (.iload_n 1, 1) := by decide +kernel
theorem dX11_end_16 : decode cX11_end 16 = .ok (.putfield 80, 3) := by decide +kernel
theorem dX11_end_19 : decode cX11_end 19 = .ok (.iload_n 1, 1) := by decide +kernel
theorem dX11_end_20 : decode cX11_end 20 = .ok (.ireturn, 1) := by decide +kernel
def x_end (N : Nat) (a1 : Int) (M : jMem) : Option (Int × jMem) := (if a1 < 0 then some ((-1), M) else (if (M 0 1) < a1 then some ((-1), M) else jlt (up M 0 1 a1) fun M1 => some (a1, M1)))
theorem c_x_end {l : Launch} {g : jG} (N : Nat) (a1 : Int) (M : jMem)  : ∀ o, x_end N a1 M = some o → jCt l g jTX yX11_end cX11_end 2 (some .int) 0 1 [(2, 0), (0, a1)] M o := by
  refine jMet (own := RX11) (em := id) (L := [(0, 2, 0), (1, 0, a1)]) (by decide +kernel) rfl (Nat.le_of_ble_eq_true rfl) rfl (fun K hR => ?_)
  unfold x_end
  refine z_iload_n (pc := 0) hR 1 dX11_end_0 rfl rfl ?_
  refine z_iflt (pc := 1) (tgt := 12) hR dX11_end_1 (by decide) ?_ ?_
  · refine z_iconst (pc := 12) hR dX11_end_12 rfl ?_
    exact z_ireturn (pc := 13) hR rfl rfl dX11_end_13 rfl
  · refine z_iload_n (pc := 4) hR 1 dX11_end_4 rfl rfl ?_
    refine z_aload_n (pc := 5) hR 0 dX11_end_5 rfl rfl ?_
    refine z_geti (pc := 6) hR (j := 1) jf_RX11_80 kxo_0 (by decide) rfl rfl dX11_end_6 ?_
    refine z_icmple (pc := 9) (tgt := 14) hR dX11_end_9 (by decide) ?_ ?_
    · refine z_aload_n (pc := 14) hR 0 dX11_end_14 rfl rfl ?_
      refine z_iload_n (pc := 15) hR 1 dX11_end_15 rfl rfl ?_
      refine z_puti (pc := 16) hR (j := 1) jp_RX11_80 kxo_0 (by decide) rfl rfl rfl rfl dX11_end_16 (fun M1 => ?_)
      refine z_iload_n (pc := 19) hR 1 dX11_end_19 rfl rfl ?_
      exact z_ireturn (pc := 20) hR rfl rfl dX11_end_20 rfl
    · refine z_iconst (pc := 12) hR dX11_end_12 rfl ?_
      exact z_ireturn (pc := 13) hR rfl rfl dX11_end_13 rfl
theorem dX8_isDigit_0 : decode cX8_isDigit 0 = .ok (.iload_n 0, 1) := by decide +kernel
theorem dX8_isDigit_1 : decode cX8_isDigit 1 = .ok (.bipush 48, 2) := by decide +kernel
theorem dX8_isDigit_3 : decode cX8_isDigit 3 = .ok (.if_icmp .lt 13, 3) := by decide +kernel
theorem dX8_isDigit_6 : decode cX8_isDigit 6 = .ok (.iload_n 0, 1) := by decide +kernel
theorem dX8_isDigit_7 : decode cX8_isDigit 7 = .ok (.bipush 57, 2) := by decide +kernel
theorem dX8_isDigit_9 : decode cX8_isDigit 9 = .ok (.if_icmp .gt 7, 3) := by decide +kernel
theorem dX8_isDigit_12 : decode cX8_isDigit 12 = .ok (.iconst 1, 1) := by decide +kernel
theorem dX8_isDigit_13 : decode cX8_isDigit 13 = .ok (.goto 4, 3) := by decide +kernel
theorem dX8_isDigit_16 : decode cX8_isDigit 16 = .ok (.iconst 0, 1) := by decide +kernel
theorem dX8_isDigit_17 : decode cX8_isDigit 17 = .ok (.ireturn, 1) := by decide +kernel
def To_isDigit (N : Nat) (a0 : Int) (M : jMem) : Option Int := (if a0 < 48 then some 0 else (if 57 < a0 then some 0 else some 1))
theorem c_To_isDigit {l : Launch} {g : jG} (N : Nat) (a0 : Int) (M : jMem)  : ∀ o, To_isDigit N a0 M = some o → jCt l g jTX yX8_isDigit cX8_isDigit 1 (some .boolean) 0 1 [(0, a0)] M (o, M) := by
  refine jMet (own := RX8) (em := (fun r => (r, M))) (L := [(0, 0, a0)]) (by decide +kernel) rfl (Nat.le_of_ble_eq_true rfl) rfl (fun K hR => ?_)
  unfold To_isDigit
  refine z_iload_n (pc := 0) hR 0 dX8_isDigit_0 rfl rfl ?_
  refine z_bipush (pc := 1) hR dX8_isDigit_1 rfl ?_
  refine z_icmplt (pc := 3) (tgt := 16) hR dX8_isDigit_3 (by decide) ?_ ?_
  · refine z_iconst (pc := 16) hR dX8_isDigit_16 rfl ?_
    exact z_zreturn (pc := 17) hR rfl rfl (Or.inl rfl) dX8_isDigit_17 rfl
  · refine z_iload_n (pc := 6) hR 0 dX8_isDigit_6 rfl rfl ?_
    refine z_bipush (pc := 7) hR dX8_isDigit_7 rfl ?_
    refine z_icmpgt (pc := 9) (tgt := 16) hR dX8_isDigit_9 (by decide) ?_ ?_
    · refine z_iconst (pc := 16) hR dX8_isDigit_16 rfl ?_
      exact z_zreturn (pc := 17) hR rfl rfl (Or.inl rfl) dX8_isDigit_17 rfl
    · refine z_iconst (pc := 12) hR dX8_isDigit_12 rfl ?_
      refine z_goto (pc := 13) (tgt := 17) hR dX8_isDigit_13 (by decide) ?_
      exact z_zreturn (pc := 17) hR rfl rfl (Or.inr rfl) dX8_isDigit_17 rfl
theorem dX8_cutNumber_0 : decode cX8_cutNumber 0 = .ok (.aload_n 0, 1) := by decide +kernel
theorem dX8_cutNumber_1 : decode cX8_cutNumber 1 = .ok (.getfield 15, 3) := by decide +kernel
theorem dX8_cutNumber_4 : decode cX8_cutNumber 4 = .ok (.iload_n 3, 1) := by decide +kernel
theorem dX8_cutNumber_5 : decode cX8_cutNumber 5 = .ok (.iaload, 1) := by decide +kernel
theorem dX8_cutNumber_6 : decode cX8_cutNumber 6 = .ok (.istore 4, 2) := by decide +kernel
theorem dX8_cutNumber_8 : decode cX8_cutNumber 8 = .ok (.iconst 0, 1) := by decide +kernel
theorem dX8_cutNumber_9 : decode cX8_cutNumber 9 = .ok (.istore 5, 2) := by decide +kernel
theorem dX8_cutNumber_11 : decode cX8_cutNumber 11 = .ok (.iconst 0, 1) := by decide +kernel
theorem dX8_cutNumber_12 : decode cX8_cutNumber 12 = .ok (.istore 6, 2) := by decide +kernel
theorem dX8_cutNumber_14 : decode cX8_cutNumber 14 = .ok (.iload 4, 2) := by decide +kernel
theorem dX8_cutNumber_16 : decode cX8_cutNumber 16 = .ok (.iload_n 2, 1) := by decide +kernel
theorem dX8_cutNumber_17 : decode cX8_cutNumber 17 = .ok (.if_icmp .ge 51, 3) := by decide +kernel
theorem dX8_cutNumber_20 : decode cX8_cutNumber 20 = .ok (.aload_n 1, 1) := by decide +kernel
theorem dX8_cutNumber_21 : decode cX8_cutNumber 21 = .ok (.iload 4, 2) := by decide +kernel
theorem dX8_cutNumber_23 : decode cX8_cutNumber 23 = .ok (.baload, 1) := by decide +kernel
theorem dX8_cutNumber_24 : decode cX8_cutNumber 24 = .ok (.sipush 255, 3) := by decide +kernel
theorem dX8_cutNumber_27 : decode cX8_cutNumber 27 = .ok (.iand, 1) := by decide +kernel
theorem dX8_cutNumber_28 : decode cX8_cutNumber 28 = .ok (.invokestatic 21, 3) := by decide +kernel
theorem dX8_cutNumber_31 : decode cX8_cutNumber 31 = .ok (.ifCond .eq 37, 3) := by decide +kernel
theorem dX8_cutNumber_34 : decode cX8_cutNumber 34 = .ok (.iinc 6 1, 3) := by decide +kernel
theorem dX8_cutNumber_37 : decode cX8_cutNumber 37 = .ok (.iload 6, 2) := by decide +kernel
theorem dX8_cutNumber_39 : decode cX8_cutNumber 39 = .ok (.iconst 5, 1) := by decide +kernel
theorem dX8_cutNumber_40 : decode cX8_cutNumber 40 = .ok (.if_icmp .gt 22, 3) := by decide +kernel
theorem dX8_cutNumber_43 : decode cX8_cutNumber 43 = .ok (.iload 5, 2) := by decide +kernel
theorem dX8_cutNumber_45 : decode cX8_cutNumber 45 = .ok (.bipush 10, 2) := by decide +kernel
theorem dX8_cutNumber_47 : decode cX8_cutNumber 47 = .ok (.imul, 1) := by decide +kernel
theorem dX8_cutNumber_48 : decode cX8_cutNumber 48 = .ok (.aload_n 1, 1) := by decide +kernel
theorem dX8_cutNumber_49 : decode cX8_cutNumber 49 = .ok (.iload 4, 2) := by decide +kernel
theorem dX8_cutNumber_51 : decode cX8_cutNumber 51 = .ok (.baload, 1) := by decide +kernel
theorem dX8_cutNumber_52 : decode cX8_cutNumber 52 = .ok (.sipush 255, 3) := by decide +kernel
theorem dX8_cutNumber_55 : decode cX8_cutNumber 55 = .ok (.iand, 1) := by decide +kernel
theorem dX8_cutNumber_56 : decode cX8_cutNumber 56 = .ok (.iadd, 1) := by decide +kernel
theorem dX8_cutNumber_57 : decode cX8_cutNumber 57 = .ok (.bipush 48, 2) := by decide +kernel
theorem dX8_cutNumber_59 : decode cX8_cutNumber 59 = .ok (.isub, 1) := by decide +kernel
theorem dX8_cutNumber_60 : decode cX8_cutNumber 60 = .ok (.istore 5, 2) := by decide +kernel
theorem dX8_cutNumber_62 : decode cX8_cutNumber 62 = .ok (.iinc 4 1, 3) := by decide +kernel
theorem dX8_cutNumber_65 : decode cX8_cutNumber 65 = .ok (.goto (-51), 3) := by decide +kernel
theorem dX8_cutNumber_68 : decode cX8_cutNumber 68 = .ok (.aload_n 0, 1) := by decide +kernel
theorem dX8_cutNumber_69 : decode cX8_cutNumber 69 = .ok (.getfield 9, 3) := by decide +kernel
theorem dX8_cutNumber_72 : decode cX8_cutNumber 72 = .ok (.iload_n 3, 1) := by decide +kernel
theorem dX8_cutNumber_73 : decode cX8_cutNumber 73 = .ok (.iload 6, 2) := by decide +kernel
theorem dX8_cutNumber_75 : decode cX8_cutNumber 75 = .ok (.iconst 5, 1) := by decide +kernel
theorem dX8_cutNumber_76 : decode cX8_cutNumber 76 = .ok (.if_icmp .gt 7, 3) := by decide +kernel
theorem dX8_cutNumber_79 : decode cX8_cutNumber 79 = .ok (.iconst 1, 1) := by decide +kernel
theorem dX8_cutNumber_80 : decode cX8_cutNumber 80 = .ok (.goto 4, 3) := by decide +kernel
theorem dX8_cutNumber_83 : decode cX8_cutNumber 83 = .ok (.iconst 2, 1) := by decide +kernel
theorem dX8_cutNumber_84 : decode cX8_cutNumber 84 = .ok (.iastore, 1) := by decide +kernel
theorem dX8_cutNumber_85 : decode cX8_cutNumber 85 = .ok (.aload_n 0, 1) := by decide +kernel
theorem dX8_cutNumber_86 : decode cX8_cutNumber 86 = .ok (.getfield 18, 3) := by decide +kernel
theorem dX8_cutNumber_89 : decode cX8_cutNumber 89 = .ok (.iload_n 3, 1) := by decide +kernel
theorem dX8_cutNumber_90 : decode cX8_cutNumber 90 = .ok (.iload 5, 2) := by decide +kernel
theorem dX8_cutNumber_92 : decode cX8_cutNumber 92 = .ok (.iastore, 1) := by decide +kernel
theorem dX8_cutNumber_93 : decode cX8_cutNumber 93 = .ok (.iload 4, 2) := by decide +kernel
theorem dX8_cutNumber_95 : decode cX8_cutNumber 95 = .ok (.ireturn, 1) := by decide +kernel
def To_cutNumber_L14 (N : Nat) (a2 : Int) (a3 : Int) (M : jMem) (h14 : (Int × Int × Int) → Option (Int × jMem)) : Int × Int × Int → Option (Int × jMem)
  | (x3, x4, x5) => jlt (fun (_ : Unit) => jlt (fun (u6 : Int) => jchk (0 ≤ a3 ∧ a3 < 401) <| jlt (up M 3 a3 u6) fun M8 => jchk (0 ≤ a3 ∧ a3 < 401) <| jlt (up M8 5 a3 x4) fun M10 => some (x3, M10)) fun j84 => (if 5 < x5 then j84 2 else j84 1)) fun j68 => (if x3 < a2 then jchk (0 ≤ x3 ∧ x3 < 400) <| (To_isDigit N ((jand ((M 1 x3)) 255)) M).bind fun r12 => (if r12 = 0 then j68 () else (if 5 < (w32 (x5 + 1)) then h14 ((w32 (x3 + 1)), x4, (w32 (x5 + 1))) else jchk (0 ≤ x3 ∧ x3 < 400) <| jlt ((w32 (((w32 (((w32 (x4 * 10))) + ((jand ((M 1 x3)) 255))))) - 48))) fun v14 => h14 ((w32 (x3 + 1)), v14, (w32 (x5 + 1))))) else j68 ())
def To_cutNumber (N : Nat) (a2 a3 : Int) (M : jMem) : Option (Int × jMem) := jchk (0 ≤ a3 ∧ a3 < 401) <| jlt ((M 4 a3)) fun v2 => jfix N (To_cutNumber_L14 N a2 a3 M) (v2, 0, 0)
theorem c_To_cutNumber {l : Launch} {g : jG} (N : Nat) (a2 a3 : Int) (M : jMem)  : ∀ o, To_cutNumber N a2 a3 M = some o → jCt l g jTX yX8_cutNumber cX8_cutNumber 7 (some .int) 0 3 [(2, 2), (2, 1), (0, a2), (0, a3)] M o := by
  refine jMet (own := RX8) (em := id) (L := [(0, 2, 2), (1, 2, 1), (2, 0, a2), (3, 0, a3)]) (by decide +kernel) rfl (Nat.le_of_ble_eq_true rfl) rfl (fun K hR => ?_)
  unfold To_cutNumber
  refine z_aload_n (pc := 0) hR 0 dX8_cutNumber_0 rfl rfl ?_
  refine z_getr (pc := 1) hR (c0 := 2) (r := 4) jf_RX8_15 kxo_2 (by decide) rfl rfl dX8_cutNumber_1 ?_
  refine z_iload_n (pc := 4) hR 3 dX8_cutNumber_4 rfl rfl ?_
  refine z_chk (fun hc1 => ?_)
  refine z_iald (pc := 5) hR (n := 401) kxa_4 hc1.1 hc1.2 dX8_cutNumber_5 ?_
  refine z_let1 (fun v2 => ?_)
  refine z_istore (pc := 6) hR (lv' := [(4, 0, v2), (0, 2, 2), (1, 2, 1), (2, 0, a2), (3, 0, a3)]) dX8_cutNumber_6 (by decide) rfl ?_
  refine z_iconst (pc := 8) hR dX8_cutNumber_8 rfl ?_
  refine z_istore (pc := 9) hR (lv' := [(5, 0, 0), (4, 0, v2), (0, 2, 2), (1, 2, 1), (2, 0, a2), (3, 0, a3)]) dX8_cutNumber_9 (by decide) rfl ?_
  refine z_iconst (pc := 11) hR dX8_cutNumber_11 rfl ?_
  refine z_istore (pc := 12) hR (lv' := [(6, 0, 0), (5, 0, 0), (4, 0, v2), (0, 2, 2), (1, 2, 1), (2, 0, a2), (3, 0, a3)]) dX8_cutNumber_12 (by decide) rfl ?_
  refine z_pick (pc := 14) (lv' := [(0, 2, 2), (1, 2, 1), (2, 0, a2), (3, 0, a3), (4, 0, v2), (5, 0, 0), (6, 0, 0)]) hR [3, 4, 5, 6, 2, 1, 0] rfl ?_
  refine z_fix (σ := Int × Int × Int) (lv := fun s => [(0, 2, 2), (1, 2, 1), (2, 0, a2), (3, 0, a3), (4, 0, s.1), (5, 0, s.2.1), (6, 0, s.2.2)]) (st := fun _ => []) (M := fun _ => M) (fun h14 hh14 => ?_) N (v2, 0, 0)
  rintro ⟨x3, x4, x5⟩
  show jZ K id 14 [(0, 2, 2), (1, 2, 1), (2, 0, a2), (3, 0, a3), (4, 0, x3), (5, 0, x4), (6, 0, x5)] [] M _
  unfold To_cutNumber_L14
  refine z_iload (pc := 14) hR 4 dX8_cutNumber_14 rfl ?_
  refine z_iload_n (pc := 16) hR 2 dX8_cutNumber_16 rfl rfl ?_
  refine z_join (P := fun j => ∀ (_ : Unit), jZ K id 68 [(0, 2, 2), (3, 0, a3), (4, 0, x3), (5, 0, x4), (6, 0, x5)] [] M (j ())) (fun _ => ?_) (fun j68 hj68 => ?_)
  · refine z_aload_n (pc := 68) hR 0 dX8_cutNumber_68 rfl rfl ?_
    refine z_getr (pc := 69) hR (c0 := 1) (r := 3) jf_RX8_9 kxo_2 (by decide) rfl rfl dX8_cutNumber_69 ?_
    refine z_iload_n (pc := 72) hR 1 dX8_cutNumber_72 rfl rfl ?_
    refine z_iload (pc := 73) hR 4 dX8_cutNumber_73 rfl ?_
    refine z_iconst (pc := 75) hR dX8_cutNumber_75 rfl ?_
    refine z_join (P := fun j => ∀ (u6 : Int), jZ K id 84 [(0, 2, 2), (3, 0, a3), (4, 0, x3), (5, 0, x4)] [(0, u6), (0, a3), (2, 3)] M (j u6)) (fun u6 => ?_) (fun j84 hj84 => ?_)
    · refine z_chk (fun hc7 => ?_)
      refine z_iast (pc := 84) hR (n := 401) kxa_3 hc7.1 hc7.2 dX8_cutNumber_84 (fun M8 => ?_)
      refine z_aload_n (pc := 85) hR 0 dX8_cutNumber_85 rfl rfl ?_
      refine z_getr (pc := 86) hR (c0 := 3) (r := 5) jf_RX8_18 kxo_2 (by decide) rfl rfl dX8_cutNumber_86 ?_
      refine z_iload_n (pc := 89) hR 1 dX8_cutNumber_89 rfl rfl ?_
      refine z_iload (pc := 90) hR 3 dX8_cutNumber_90 rfl ?_
      refine z_chk (fun hc9 => ?_)
      refine z_iast (pc := 92) hR (n := 401) kxa_5 hc9.1 hc9.2 dX8_cutNumber_92 (fun M10 => ?_)
      refine z_iload (pc := 93) hR 2 dX8_cutNumber_93 rfl ?_
      exact z_ireturn (pc := 95) hR rfl rfl dX8_cutNumber_95 rfl
    refine z_icmpgt (pc := 76) (tgt := 83) hR dX8_cutNumber_76 (by decide) ?_ ?_
    · refine z_iconst (pc := 83) hR dX8_cutNumber_83 rfl ?_
      refine z_pick (pc := 84) (lv' := [(0, 2, 2), (3, 0, a3), (4, 0, x3), (5, 0, x4)]) hR [0, 1, 2, 3] rfl ?_
      exact hj84 2
    · refine z_iconst (pc := 79) hR dX8_cutNumber_79 rfl ?_
      refine z_goto (pc := 80) (tgt := 84) hR dX8_cutNumber_80 (by decide) ?_
      refine z_pick (pc := 84) (lv' := [(0, 2, 2), (3, 0, a3), (4, 0, x3), (5, 0, x4)]) hR [0, 1, 2, 3] rfl ?_
      exact hj84 1
  refine z_icmpge (pc := 17) (tgt := 68) hR dX8_cutNumber_17 (by decide) ?_ ?_
  · refine z_pick (pc := 68) (lv' := [(0, 2, 2), (3, 0, a3), (4, 0, x3), (5, 0, x4), (6, 0, x5)]) hR [0, 3, 4, 5, 6] rfl ?_
    exact hj68 ()
  · refine z_aload_n (pc := 20) hR 1 dX8_cutNumber_20 rfl rfl ?_
    refine z_iload (pc := 21) hR 4 dX8_cutNumber_21 rfl ?_
    refine z_chk (fun hc11 => ?_)
    refine z_bald (pc := 23) hR (n := 400) kxa_1 hc11.1 hc11.2 dX8_cutNumber_23 ?_
    refine z_sipush (pc := 24) hR dX8_cutNumber_24 rfl ?_
    refine z_iand (pc := 27) hR dX8_cutNumber_27 ?_
    refine z_callsp (pc := 28) hR (As := [(0, (jand ((M 1 x3)) 255))]) (st := []) jm_X8_isDigit jl_RX8_21 (by decide) (c_To_isDigit N ((jand ((M 1 x3)) 255)) M) rfl (by decide) (by decide) rfl (Nat.le_of_ble_eq_true rfl) dX8_cutNumber_28 (fun r12 => ?_)
    refine z_ifeq (pc := 31) (tgt := 68) hR dX8_cutNumber_31 (by decide) ?_ ?_
    · refine z_pick (pc := 68) (lv' := [(0, 2, 2), (3, 0, a3), (4, 0, x3), (5, 0, x4), (6, 0, x5)]) hR [0, 3, 4, 5, 6] rfl ?_
      exact hj68 ()
    · refine z_iinc (pc := 34) hR (j := 6) (lv' := [(6, 0, (w32 (x5 + 1))), (0, 2, 2), (1, 2, 1), (2, 0, a2), (3, 0, a3), (4, 0, x3), (5, 0, x4)]) dX8_cutNumber_34 rfl (by decide) rfl ?_
      refine z_iload (pc := 37) hR 0 dX8_cutNumber_37 rfl ?_
      refine z_iconst (pc := 39) hR dX8_cutNumber_39 rfl ?_
      refine z_icmpgt (pc := 40) (tgt := 62) hR dX8_cutNumber_40 (by decide) ?_ ?_
      · refine z_iinc (pc := 62) hR (j := 5) (lv' := [(4, 0, (w32 (x3 + 1))), (6, 0, (w32 (x5 + 1))), (0, 2, 2), (1, 2, 1), (2, 0, a2), (3, 0, a3), (5, 0, x4)]) dX8_cutNumber_62 rfl (by decide) rfl ?_
        refine z_goto (pc := 65) (tgt := 14) hR dX8_cutNumber_65 (by decide) ?_
        refine z_pick (pc := 14) (lv' := [(0, 2, 2), (1, 2, 1), (2, 0, a2), (3, 0, a3), (4, 0, (w32 (x3 + 1))), (5, 0, x4), (6, 0, (w32 (x5 + 1)))]) hR [2, 3, 4, 5, 0, 6, 1] rfl ?_
        exact hh14 ((w32 (x3 + 1)), x4, (w32 (x5 + 1)))
      · refine z_iload (pc := 43) hR 6 dX8_cutNumber_43 rfl ?_
        refine z_bipush (pc := 45) hR dX8_cutNumber_45 rfl ?_
        refine z_imul (pc := 47) hR dX8_cutNumber_47 ?_
        refine z_aload_n (pc := 48) hR 2 dX8_cutNumber_48 rfl rfl ?_
        refine z_iload (pc := 49) hR 5 dX8_cutNumber_49 rfl ?_
        refine z_chk (fun hc13 => ?_)
        refine z_bald (pc := 51) hR (n := 400) kxa_1 hc13.1 hc13.2 dX8_cutNumber_51 ?_
        refine z_sipush (pc := 52) hR dX8_cutNumber_52 rfl ?_
        refine z_iand (pc := 55) hR dX8_cutNumber_55 ?_
        refine z_iadd (pc := 56) hR dX8_cutNumber_56 ?_
        refine z_bipush (pc := 57) hR dX8_cutNumber_57 rfl ?_
        refine z_isub (pc := 59) hR dX8_cutNumber_59 ?_
        refine z_let1 (fun v14 => ?_)
        refine z_istore (pc := 60) hR (lv' := [(5, 0, v14), (6, 0, (w32 (x5 + 1))), (0, 2, 2), (1, 2, 1), (2, 0, a2), (3, 0, a3), (4, 0, x3)]) dX8_cutNumber_60 (by decide) rfl ?_
        refine z_iinc (pc := 62) hR (j := 6) (lv' := [(4, 0, (w32 (x3 + 1))), (5, 0, v14), (6, 0, (w32 (x5 + 1))), (0, 2, 2), (1, 2, 1), (2, 0, a2), (3, 0, a3)]) dX8_cutNumber_62 rfl (by decide) rfl ?_
        refine z_goto (pc := 65) (tgt := 14) hR dX8_cutNumber_65 (by decide) ?_
        refine z_pick (pc := 14) (lv' := [(0, 2, 2), (1, 2, 1), (2, 0, a2), (3, 0, a3), (4, 0, (w32 (x3 + 1))), (5, 0, v14), (6, 0, (w32 (x5 + 1)))]) hR [3, 4, 5, 6, 0, 1, 2] rfl ?_
        exact hh14 ((w32 (x3 + 1)), v14, (w32 (x5 + 1)))
theorem dX8_isSmallLetter_0 : decode cX8_isSmallLetter 0 = .ok (.iload_n 0, 1) := by decide +kernel
theorem dX8_isSmallLetter_1 : decode cX8_isSmallLetter 1 = .ok (.bipush 97, 2) := by decide +kernel
theorem dX8_isSmallLetter_3 : decode cX8_isSmallLetter 3 = .ok (.if_icmp .lt 13, 3) := by decide +kernel
theorem dX8_isSmallLetter_6 : decode cX8_isSmallLetter 6 = .ok (.iload_n 0, 1) := by decide +kernel
theorem dX8_isSmallLetter_7 : decode cX8_isSmallLetter 7 = .ok (.bipush 122, 2) := by decide +kernel
theorem dX8_isSmallLetter_9 : decode cX8_isSmallLetter 9 = .ok (.if_icmp .gt 7, 3) := by decide +kernel
theorem dX8_isSmallLetter_12 : decode cX8_isSmallLetter 12 = .ok (.iconst 1, 1) := by decide +kernel
theorem dX8_isSmallLetter_13 : decode cX8_isSmallLetter 13 = .ok (.goto 4, 3) := by decide +kernel
theorem dX8_isSmallLetter_16 : decode cX8_isSmallLetter 16 = .ok (.iconst 0, 1) := by decide +kernel
theorem dX8_isSmallLetter_17 : decode cX8_isSmallLetter 17 = .ok (.ireturn, 1) := by decide +kernel
def To_isSmallLetter (N : Nat) (a0 : Int) (M : jMem) : Option Int := (if a0 < 97 then some 0 else (if 122 < a0 then some 0 else some 1))
theorem c_To_isSmallLetter {l : Launch} {g : jG} (N : Nat) (a0 : Int) (M : jMem)  : ∀ o, To_isSmallLetter N a0 M = some o → jCt l g jTX yX8_isSmallLetter cX8_isSmallLetter 1 (some .boolean) 0 1 [(0, a0)] M (o, M) := by
  refine jMet (own := RX8) (em := (fun r => (r, M))) (L := [(0, 0, a0)]) (by decide +kernel) rfl (Nat.le_of_ble_eq_true rfl) rfl (fun K hR => ?_)
  unfold To_isSmallLetter
  refine z_iload_n (pc := 0) hR 0 dX8_isSmallLetter_0 rfl rfl ?_
  refine z_bipush (pc := 1) hR dX8_isSmallLetter_1 rfl ?_
  refine z_icmplt (pc := 3) (tgt := 16) hR dX8_isSmallLetter_3 (by decide) ?_ ?_
  · refine z_iconst (pc := 16) hR dX8_isSmallLetter_16 rfl ?_
    exact z_zreturn (pc := 17) hR rfl rfl (Or.inl rfl) dX8_isSmallLetter_17 rfl
  · refine z_iload_n (pc := 6) hR 0 dX8_isSmallLetter_6 rfl rfl ?_
    refine z_bipush (pc := 7) hR dX8_isSmallLetter_7 rfl ?_
    refine z_icmpgt (pc := 9) (tgt := 16) hR dX8_isSmallLetter_9 (by decide) ?_ ?_
    · refine z_iconst (pc := 16) hR dX8_isSmallLetter_16 rfl ?_
      exact z_zreturn (pc := 17) hR rfl rfl (Or.inl rfl) dX8_isSmallLetter_17 rfl
    · refine z_iconst (pc := 12) hR dX8_isSmallLetter_12 rfl ?_
      refine z_goto (pc := 13) (tgt := 17) hR dX8_isSmallLetter_13 (by decide) ?_
      exact z_zreturn (pc := 17) hR rfl rfl (Or.inr rfl) dX8_isSmallLetter_17 rfl
theorem dJ0_coder_7d493_0 : decode cJ0_coder_7d493 0 = .ok (.getstatic 38, 3) := by decide +kernel
theorem dJ0_coder_7d493_3 : decode cJ0_coder_7d493 3 = .ok (.ifCond .eq 10, 3) := by decide +kernel
theorem dJ0_coder_7d493_6 : decode cJ0_coder_7d493 6 = .ok (.aload_n 0, 1) := by decide +kernel
theorem dJ0_coder_7d493_7 : decode cJ0_coder_7d493 7 = .ok (.getfield 15, 3) := by decide +kernel
theorem dJ0_coder_7d493_10 : decode cJ0_coder_7d493 10 = .ok (.goto 4, 3) := by decide +kernel
theorem dJ0_coder_7d493_13 : decode cJ0_coder_7d493 13 = .ok (.iconst 1, 1) := by decide +kernel
theorem dJ0_coder_7d493_14 : decode cJ0_coder_7d493 14 = .ok (.ireturn, 1) := by decide +kernel
def Js_coder (N : Nat) (w : Nat) (M : jMem) : Option Int := (if (1 : Int) = 0 then some 1 else some 0)
theorem c_Js_coder {l : Launch} {g : jG} (N : Nat) (w : Nat) (M : jMem) (hw : w < 2) : ∀ o, Js_coder N w M = some o → jCt l g jTX yJ0_coder_7d493 cJ0_coder_7d493 1 (some .byte) 0 1 [(4, (jSa g w))] M (o, M) := by
  refine jMet (own := RJ0) (em := (fun r => (r, M))) (L := [(0, 4, (jSa g w))]) (by decide +kernel) rfl (Nat.le_of_ble_eq_true rfl) rfl (fun K hR => ?_)
  unfold Js_coder
  refine z_gstC (pc := 0) hR jf_RJ0_38 dJ0_coder_7d493_0 ?_
  refine z_ifeq (pc := 3) (tgt := 13) hR dJ0_coder_7d493_3 (by decide) ?_ ?_
  · refine z_iconst (pc := 13) hR dJ0_coder_7d493_13 rfl ?_
    exact z_breturn (pc := 14) hR rfl rfl (by decide) dJ0_coder_7d493_14 rfl
  · refine z_aload4_n (pc := 6) hR 0 dJ0_coder_7d493_6 rfl rfl ?_
    refine z_sgetc (pc := 7) hR hw jf_RJ0_15 dJ0_coder_7d493_7 ?_
    refine z_goto (pc := 10) (tgt := 14) hR dJ0_coder_7d493_10 (by decide) ?_
    exact z_breturn (pc := 14) hR rfl rfl (by decide) dJ0_coder_7d493_14 rfl
theorem dJ0_length_8abf5_0 : decode cJ0_length_8abf5 0 = .ok (.aload_n 0, 1) := by decide +kernel
theorem dJ0_length_8abf5_1 : decode cJ0_length_8abf5 1 = .ok (.getfield 9, 3) := by decide +kernel
theorem dJ0_length_8abf5_4 : decode cJ0_length_8abf5 4 = .ok (.arraylength, 1) := by decide +kernel
theorem dJ0_length_8abf5_5 : decode cJ0_length_8abf5 5 = .ok (.aload_n 0, 1) := by decide +kernel
theorem dJ0_length_8abf5_6 : decode cJ0_length_8abf5 6 = .ok (.invokevirtual 335, 3) := by decide +kernel
theorem dJ0_length_8abf5_9 : decode cJ0_length_8abf5 9 = .ok (.ishr, 1) := by decide +kernel
theorem dJ0_length_8abf5_10 : decode cJ0_length_8abf5 10 = .ok (.ireturn, 1) := by decide +kernel
def Js_length (N : Nat) (w : Nat) (M : jMem) : Option Int := (Js_coder N w M).bind fun r1 => some ((jshr ((jSl w)) r1))
theorem c_Js_length {l : Launch} {g : jG} (N : Nat) (w : Nat) (M : jMem) (hw : w < 2) : ∀ o, Js_length N w M = some o → jCt l g jTX yJ0_length_8abf5 cJ0_length_8abf5 1 (some .int) 0 3 [(4, (jSa g w))] M (o, M) := by
  refine jMet (own := RJ0) (em := (fun r => (r, M))) (L := [(0, 4, (jSa g w))]) (by decide +kernel) rfl (Nat.le_of_ble_eq_true rfl) rfl (fun K hR => ?_)
  unfold Js_length
  refine z_aload4_n (pc := 0) hR 0 dJ0_length_8abf5_0 rfl rfl ?_
  refine z_sgetv (pc := 1) hR hw jf_RJ0_9 dJ0_length_8abf5_1 ?_
  refine z_blen (pc := 4) hR hw dJ0_length_8abf5_4 ?_
  refine z_aload4_n (pc := 5) hR 0 dJ0_length_8abf5_5 rfl rfl ?_
  refine z_callv4p (pc := 6) hR (As := []) (st := [(0, (jSl w))]) jm_J0_coder_7d493 jl_RJ0_335 hw (by decide) (c_Js_coder N w M hw) rfl (by decide) (by decide) rfl (Nat.le_of_ble_eq_true rfl) dJ0_length_8abf5_6 (fun r1 => ?_)
  refine z_ishr (pc := 9) hR dJ0_length_8abf5_9 ?_
  exact z_ireturn (pc := 10) hR rfl rfl dJ0_length_8abf5_10 rfl
theorem dJ0_isLatin1_aae02_0 : decode cJ0_isLatin1_aae02 0 = .ok (.getstatic 38, 3) := by decide +kernel
theorem dJ0_isLatin1_aae02_3 : decode cJ0_isLatin1_aae02 3 = .ok (.ifCond .eq 14, 3) := by decide +kernel
theorem dJ0_isLatin1_aae02_6 : decode cJ0_isLatin1_aae02 6 = .ok (.aload_n 0, 1) := by decide +kernel
theorem dJ0_isLatin1_aae02_7 : decode cJ0_isLatin1_aae02 7 = .ok (.getfield 15, 3) := by decide +kernel
theorem dJ0_isLatin1_aae02_10 : decode cJ0_isLatin1_aae02 10 = .ok (.ifCond .ne 7, 3) := by decide +kernel
theorem dJ0_isLatin1_aae02_13 : decode cJ0_isLatin1_aae02 13 = .ok (.iconst 1, 1) := by decide +kernel
theorem dJ0_isLatin1_aae02_14 : decode cJ0_isLatin1_aae02 14 = .ok (.goto 4, 3) := by decide +kernel
theorem dJ0_isLatin1_aae02_17 : decode cJ0_isLatin1_aae02 17 = .ok (.iconst 0, 1) := by decide +kernel
theorem dJ0_isLatin1_aae02_18 : decode cJ0_isLatin1_aae02 18 = .ok (.ireturn, 1) := by decide +kernel
def Js_isLatin1 (N : Nat) (w : Nat) (M : jMem) : Option Int := (if (1 : Int) = 0 then some 0 else (if (0 : Int) = 0 then some 1 else some 0))
theorem c_Js_isLatin1 {l : Launch} {g : jG} (N : Nat) (w : Nat) (M : jMem) (hw : w < 2) : ∀ o, Js_isLatin1 N w M = some o → jCt l g jTX yJ0_isLatin1_aae02 cJ0_isLatin1_aae02 1 (some .boolean) 0 1 [(4, (jSa g w))] M (o, M) := by
  refine jMet (own := RJ0) (em := (fun r => (r, M))) (L := [(0, 4, (jSa g w))]) (by decide +kernel) rfl (Nat.le_of_ble_eq_true rfl) rfl (fun K hR => ?_)
  unfold Js_isLatin1
  refine z_gstC (pc := 0) hR jf_RJ0_38 dJ0_isLatin1_aae02_0 ?_
  refine z_ifeq (pc := 3) (tgt := 17) hR dJ0_isLatin1_aae02_3 (by decide) ?_ ?_
  · refine z_iconst (pc := 17) hR dJ0_isLatin1_aae02_17 rfl ?_
    exact z_zreturn (pc := 18) hR rfl rfl (Or.inl rfl) dJ0_isLatin1_aae02_18 rfl
  · refine z_aload4_n (pc := 6) hR 0 dJ0_isLatin1_aae02_6 rfl rfl ?_
    refine z_sgetc (pc := 7) hR hw jf_RJ0_15 dJ0_isLatin1_aae02_7 ?_
    refine z_ifne (pc := 10) (tgt := 17) hR dJ0_isLatin1_aae02_10 (by decide) ?_ ?_
    · refine z_iconst (pc := 17) hR dJ0_isLatin1_aae02_17 rfl ?_
      exact z_zreturn (pc := 18) hR rfl rfl (Or.inl rfl) dJ0_isLatin1_aae02_18 rfl
    · refine z_iconst (pc := 13) hR dJ0_isLatin1_aae02_13 rfl ?_
      refine z_goto (pc := 14) (tgt := 18) hR dJ0_isLatin1_aae02_14 (by decide) ?_
      exact z_zreturn (pc := 18) hR rfl rfl (Or.inr rfl) dJ0_isLatin1_aae02_18 rfl
theorem dJ3_checkIndex_8e157_0 : decode cJ3_checkIndex_8e157 0 = .ok (.iload_n 0, 1) := by decide +kernel
theorem dJ3_checkIndex_8e157_1 : decode cJ3_checkIndex_8e157 1 = .ok (.ifCond .lt 8, 3) := by decide +kernel
theorem dJ3_checkIndex_8e157_4 : decode cJ3_checkIndex_8e157 4 = .ok (.iload_n 0, 1) := by decide +kernel
theorem dJ3_checkIndex_8e157_5 : decode cJ3_checkIndex_8e157 5 = .ok (.iload_n 1, 1) := by decide +kernel
theorem dJ3_checkIndex_8e157_6 : decode cJ3_checkIndex_8e157 6 = .ok (.if_icmp .lt 10, 3) := by decide +kernel
theorem dJ3_checkIndex_8e157_16 : decode cJ3_checkIndex_8e157 16 = .ok (.iload_n 0, 1) := by decide +kernel
theorem dJ3_checkIndex_8e157_17 : decode cJ3_checkIndex_8e157 17 = .ok (.ireturn, 1) := by decide +kernel
def Jp_checkIndex (N : Nat) (a0 a1 : Int) (M : jMem) : Option Int := jlt (fun (_ : Unit) => none) fun j9 => (if a0 < 0 then j9 () else (if a0 < a1 then some a0 else j9 ()))
theorem c_Jp_checkIndex {l : Launch} {g : jG} (N : Nat) (a0 a1 : Int) (M : jMem)  : ∀ o, Jp_checkIndex N a0 a1 M = some o → jCt l g jTX yJ3_checkIndex_8e157 cJ3_checkIndex_8e157 3 (some .int) 0 2 [(0, a0), (0, a1), (5, (jSf g))] M (o, M) := by
  refine jMet (own := RJ3) (em := (fun r => (r, M))) (L := [(0, 0, a0), (1, 0, a1), (2, 5, (jSf g))]) (by decide +kernel) rfl (Nat.le_of_ble_eq_true rfl) rfl (fun K hR => ?_)
  unfold Jp_checkIndex
  refine z_iload_n (pc := 0) hR 0 dJ3_checkIndex_8e157_0 rfl rfl ?_
  refine z_join (P := fun j => ∀ (_ : Unit), jZ K (fun r => (r, M)) 9 [(0, 0, a0), (1, 0, a1), (2, 5, (jSf g))] [] M (j ())) (fun _ => ?_) (fun j9 hj9 => ?_)
  · exact z_none
  refine z_iflt (pc := 1) (tgt := 9) hR dJ3_checkIndex_8e157_1 (by decide) ?_ ?_
  · exact hj9 ()
  · refine z_iload_n (pc := 4) hR 0 dJ3_checkIndex_8e157_4 rfl rfl ?_
    refine z_iload_n (pc := 5) hR 1 dJ3_checkIndex_8e157_5 rfl rfl ?_
    refine z_icmplt (pc := 6) (tgt := 16) hR dJ3_checkIndex_8e157_6 (by decide) ?_ ?_
    · refine z_iload_n (pc := 16) hR 0 dJ3_checkIndex_8e157_16 rfl rfl ?_
      exact z_ireturn (pc := 17) hR rfl rfl dJ3_checkIndex_8e157_17 rfl
    · exact hj9 ()
theorem dJ0_checkIndex_df160_0 : decode cJ0_checkIndex_df160 0 = .ok (.iload_n 0, 1) := by decide +kernel
theorem dJ0_checkIndex_df160_1 : decode cJ0_checkIndex_df160 1 = .ok (.iload_n 1, 1) := by decide +kernel
theorem dJ0_checkIndex_df160_2 : decode cJ0_checkIndex_df160 2 = .ok (.getstatic 1053, 3) := by decide +kernel
theorem dJ0_checkIndex_df160_5 : decode cJ0_checkIndex_df160 5 = .ok (.invokestatic 1059, 3) := by decide +kernel
theorem dJ0_checkIndex_df160_8 : decode cJ0_checkIndex_df160 8 = .ok (.pop, 1) := by decide +kernel
theorem dJ0_checkIndex_df160_9 : decode cJ0_checkIndex_df160 9 = .ok (.return_, 1) := by decide +kernel
def Js_checkIndex (N : Nat) (a0 a1 : Int) (M : jMem) : Option Int := (Jp_checkIndex N a0 a1 M).bind fun r1 => some 0
theorem c_Js_checkIndex {l : Launch} {g : jG} (N : Nat) (a0 a1 : Int) (M : jMem)  : ∀ o, Js_checkIndex N a0 a1 M = some o → jCt l g jTX yJ0_checkIndex_df160 cJ0_checkIndex_df160 2 none 3 4 [(0, a0), (0, a1)] M (o, M) := by
  refine jMet (own := RJ0) (em := (fun r => (r, M))) (L := [(0, 0, a0), (1, 0, a1)]) (by decide +kernel) rfl (Nat.le_of_ble_eq_true rfl) rfl (fun K hR => ?_)
  unfold Js_checkIndex
  refine z_iload_n (pc := 0) hR 0 dJ0_checkIndex_df160_0 rfl rfl ?_
  refine z_iload_n (pc := 1) hR 1 dJ0_checkIndex_df160_1 rfl rfl ?_
  refine z_gstF (pc := 2) hR jf_RJ0_1053 dJ0_checkIndex_df160_2 ?_
  refine z_callsp (pc := 5) hR (As := [(0, a0), (0, a1), (5, (jSf g))]) (st := []) jm_J3_checkIndex_8e157 jl_RJ0_1059 (by decide) (c_Jp_checkIndex N a0 a1 M) rfl (by decide) (by decide) rfl (Nat.le_of_ble_eq_true rfl) dJ0_checkIndex_df160_5 (fun r1 => ?_)
  refine z_pop (pc := 8) hR dJ0_checkIndex_df160_8 (by decide) ?_
  exact z_return (x := 0) (pc := 9) hR rfl rfl dJ0_checkIndex_df160_9 rfl
theorem dJ1_charAt_3b067_0 : decode cJ1_charAt_3b067 0 = .ok (.iload_n 1, 1) := by decide +kernel
theorem dJ1_charAt_3b067_1 : decode cJ1_charAt_3b067 1 = .ok (.aload_n 0, 1) := by decide +kernel
theorem dJ1_charAt_3b067_2 : decode cJ1_charAt_3b067 2 = .ok (.arraylength, 1) := by decide +kernel
theorem dJ1_charAt_3b067_3 : decode cJ1_charAt_3b067 3 = .ok (.invokestatic 9, 3) := by decide +kernel
theorem dJ1_charAt_3b067_6 : decode cJ1_charAt_3b067 6 = .ok (.aload_n 0, 1) := by decide +kernel
theorem dJ1_charAt_3b067_7 : decode cJ1_charAt_3b067 7 = .ok (.iload_n 1, 1) := by decide +kernel
theorem dJ1_charAt_3b067_8 : decode cJ1_charAt_3b067 8 = .ok (.baload, 1) := by decide +kernel
theorem dJ1_charAt_3b067_9 : decode cJ1_charAt_3b067 9 = .ok (.sipush 255, 3) := by decide +kernel
theorem dJ1_charAt_3b067_12 : decode cJ1_charAt_3b067 12 = .ok (.iand, 1) := by decide +kernel
theorem dJ1_charAt_3b067_13 : decode cJ1_charAt_3b067 13 = .ok (.i2c, 1) := by decide +kernel
theorem dJ1_charAt_3b067_14 : decode cJ1_charAt_3b067 14 = .ok (.ireturn, 1) := by decide +kernel
def Jl_charAt (N : Nat) (w : Nat) (a1 : Int) (M : jMem) : Option Int := (Js_checkIndex N a1 ((jSl w)) M).bind fun _ => jchk (0 ≤ a1 ∧ a1 < jSl w) <| jchk (0 ≤ (jchr ((jand ((jSb w a1)) 255))) ∧ (jchr ((jand ((jSb w a1)) 255))) < 65536) <| some ((jchr ((jand ((jSb w a1)) 255))))
theorem c_Jl_charAt {l : Launch} {g : jG} (N : Nat) (w : Nat) (a1 : Int) (M : jMem) (hw : w < 2) : ∀ o, Jl_charAt N w a1 M = some o → jCt l g jTX yJ1_charAt_3b067 cJ1_charAt_3b067 2 (some .char) 0 6 [(4, (jSv g w)), (0, a1)] M (o, M) := by
  refine jMet (own := RJ1) (em := (fun r => (r, M))) (L := [(0, 4, (jSv g w)), (1, 0, a1)]) (by decide +kernel) rfl (Nat.le_of_ble_eq_true rfl) rfl (fun K hR => ?_)
  unfold Jl_charAt
  refine z_iload_n (pc := 0) hR 1 dJ1_charAt_3b067_0 rfl rfl ?_
  refine z_aload4_n (pc := 1) hR 0 dJ1_charAt_3b067_1 rfl rfl ?_
  refine z_blen (pc := 2) hR hw dJ1_charAt_3b067_2 ?_
  refine z_calls0p (pc := 3) hR (As := [(0, a1), (0, (jSl w))]) (st := []) jm_J0_checkIndex_df160 jl_RJ1_9 (c_Js_checkIndex N a1 ((jSl w)) M) rfl (by decide) (by decide) rfl (Nat.le_of_ble_eq_true rfl) dJ1_charAt_3b067_3 ?_
  refine z_aload4_n (pc := 6) hR 0 dJ1_charAt_3b067_6 rfl rfl ?_
  refine z_iload_n (pc := 7) hR 1 dJ1_charAt_3b067_7 rfl rfl ?_
  refine z_chk (fun hc1 => ?_)
  refine z_bbld (pc := 8) hR hw hc1.1 hc1.2 dJ1_charAt_3b067_8 ?_
  refine z_sipush (pc := 9) hR dJ1_charAt_3b067_9 rfl ?_
  refine z_iand (pc := 12) hR dJ1_charAt_3b067_12 ?_
  refine z_i2c (pc := 13) hR dJ1_charAt_3b067_13 ?_
  refine z_chk (fun hc2 => ?_)
  exact z_creturn (pc := 14) hR rfl rfl hc2 dJ1_charAt_3b067_14 rfl
theorem dJ0_charAt_5068e_0 : decode cJ0_charAt_5068e 0 = .ok (.aload_n 0, 1) := by decide +kernel
theorem dJ0_charAt_5068e_1 : decode cJ0_charAt_5068e 1 = .ok (.invokevirtual 492, 3) := by decide +kernel
theorem dJ0_charAt_5068e_4 : decode cJ0_charAt_5068e 4 = .ok (.ifCond .eq 12, 3) := by decide +kernel
theorem dJ0_charAt_5068e_7 : decode cJ0_charAt_5068e 7 = .ok (.aload_n 0, 1) := by decide +kernel
theorem dJ0_charAt_5068e_8 : decode cJ0_charAt_5068e 8 = .ok (.getfield 9, 3) := by decide +kernel
theorem dJ0_charAt_5068e_11 : decode cJ0_charAt_5068e 11 = .ok (.iload_n 1, 1) := by decide +kernel
theorem dJ0_charAt_5068e_12 : decode cJ0_charAt_5068e 12 = .ok (.invokestatic 495, 3) := by decide +kernel
theorem dJ0_charAt_5068e_15 : decode cJ0_charAt_5068e 15 = .ok (.ireturn, 1) := by decide +kernel
theorem dJ0_charAt_5068e_16 : decode cJ0_charAt_5068e 16 = .ok (.aload_n 0, 1) := by decide +kernel
theorem dJ0_charAt_5068e_17 : decode cJ0_charAt_5068e 17 = .ok (.getfield 9, 3) := by decide +kernel
theorem dJ0_charAt_5068e_20 : decode cJ0_charAt_5068e 20 = .ok (.iload_n 1, 1) := by decide +kernel
def Js_charAt (N : Nat) (w : Nat) (a1 : Int) (M : jMem) : Option Int := (Js_isLatin1 N w M).bind fun r1 => (if r1 = 0 then none else (Jl_charAt N w a1 M).bind fun r2 => jchk (0 ≤ r2 ∧ r2 < 65536) <| some r2)
theorem c_Js_charAt {l : Launch} {g : jG} (N : Nat) (w : Nat) (a1 : Int) (M : jMem) (hw : w < 2) : ∀ o, Js_charAt N w a1 M = some o → jCt l g jTX yJ0_charAt_5068e cJ0_charAt_5068e 2 (some .char) 0 8 [(4, (jSa g w)), (0, a1)] M (o, M) := by
  refine jMet (own := RJ0) (em := (fun r => (r, M))) (L := [(0, 4, (jSa g w)), (1, 0, a1)]) (by decide +kernel) rfl (Nat.le_of_ble_eq_true rfl) rfl (fun K hR => ?_)
  unfold Js_charAt
  refine z_aload4_n (pc := 0) hR 0 dJ0_charAt_5068e_0 rfl rfl ?_
  refine z_callv4p (pc := 1) hR (As := []) (st := []) jm_J0_isLatin1_aae02 jl_RJ0_492 hw (by decide) (c_Js_isLatin1 N w M hw) rfl (by decide) (by decide) rfl (Nat.le_of_ble_eq_true rfl) dJ0_charAt_5068e_1 (fun r1 => ?_)
  refine z_ifeq (pc := 4) (tgt := 16) hR dJ0_charAt_5068e_4 (by decide) ?_ ?_
  · refine z_aload4_n (pc := 16) hR 0 dJ0_charAt_5068e_16 rfl rfl ?_
    refine z_sgetv (pc := 17) hR hw jf_RJ0_9 dJ0_charAt_5068e_17 ?_
    refine z_iload_n (pc := 20) hR 1 dJ0_charAt_5068e_20 rfl rfl ?_
    exact z_none
  · refine z_aload4_n (pc := 7) hR 0 dJ0_charAt_5068e_7 rfl rfl ?_
    refine z_sgetv (pc := 8) hR hw jf_RJ0_9 dJ0_charAt_5068e_8 ?_
    refine z_iload_n (pc := 11) hR 1 dJ0_charAt_5068e_11 rfl rfl ?_
    refine z_callsp (pc := 12) hR (As := [(4, (jSv g w)), (0, a1)]) (st := []) jm_J1_charAt_3b067 jl_RJ0_495 (by decide) (c_Jl_charAt N w a1 M hw) rfl (by decide) (by decide) rfl (Nat.le_of_ble_eq_true rfl) dJ0_charAt_5068e_12 (fun r2 => ?_)
    refine z_chk (fun hc3 => ?_)
    exact z_creturn (pc := 15) hR rfl rfl hc3 dJ0_charAt_5068e_15 rfl
theorem dX8_isSame_0 : decode cX8_isSame 0 = .ok (.iconst 0, 1) := by decide +kernel
theorem dX8_isSame_1 : decode cX8_isSame 1 = .ok (.istore 4, 2) := by decide +kernel
theorem dX8_isSame_3 : decode cX8_isSame 3 = .ok (.iload 4, 2) := by decide +kernel
theorem dX8_isSame_5 : decode cX8_isSame 5 = .ok (.iload_n 3, 1) := by decide +kernel
theorem dX8_isSame_6 : decode cX8_isSame 6 = .ok (.if_icmp .ge 29, 3) := by decide +kernel
theorem dX8_isSame_9 : decode cX8_isSame 9 = .ok (.aload_n 0, 1) := by decide +kernel
theorem dX8_isSame_10 : decode cX8_isSame 10 = .ok (.iload_n 1, 1) := by decide +kernel
theorem dX8_isSame_11 : decode cX8_isSame 11 = .ok (.iload 4, 2) := by decide +kernel
theorem dX8_isSame_13 : decode cX8_isSame 13 = .ok (.iadd, 1) := by decide +kernel
theorem dX8_isSame_14 : decode cX8_isSame 14 = .ok (.baload, 1) := by decide +kernel
theorem dX8_isSame_15 : decode cX8_isSame 15 = .ok (.ldc 48, 2) := by decide +kernel
theorem dX8_isSame_17 : decode cX8_isSame 17 = .ok (.iload_n 2, 1) := by decide +kernel
theorem dX8_isSame_18 : decode cX8_isSame 18 = .ok (.iload 4, 2) := by decide +kernel
theorem dX8_isSame_20 : decode cX8_isSame 20 = .ok (.iadd, 1) := by decide +kernel
theorem dX8_isSame_21 : decode cX8_isSame 21 = .ok (.invokevirtual 56, 3) := by decide +kernel
theorem dX8_isSame_24 : decode cX8_isSame 24 = .ok (.if_icmp .eq 5, 3) := by decide +kernel
theorem dX8_isSame_27 : decode cX8_isSame 27 = .ok (.iconst 0, 1) := by decide +kernel
theorem dX8_isSame_28 : decode cX8_isSame 28 = .ok (.ireturn, 1) := by decide +kernel
theorem dX8_isSame_29 : decode cX8_isSame 29 = .ok (.iinc 4 1, 3) := by decide +kernel
theorem dX8_isSame_32 : decode cX8_isSame 32 = .ok (.goto (-29), 3) := by decide +kernel
theorem dX8_isSame_35 : decode cX8_isSame 35 = .ok (.iconst 1, 1) := by decide +kernel
theorem dX8_isSame_36 : decode cX8_isSame 36 = .ok (.ireturn, 1) := by decide +kernel
def To_isSame_L3 (N : Nat) (a1 : Int) (a2 : Int) (a3 : Int) (M : jMem) (h3 : Int → Option Int) : Int → Option Int
  | x1 => (if x1 < a3 then jchk (0 ≤ (w32 (a1 + x1)) ∧ (w32 (a1 + x1)) < 400) <| (Js_charAt N 0 ((w32 (a2 + x1))) M).bind fun r3 => (if (M 1 ((w32 (a1 + x1)))) = r3 then h3 ((w32 (x1 + 1))) else some 0) else some 1)
def To_isSame (N : Nat) (a1 a2 a3 : Int) (M : jMem) : Option Int := jfix N (To_isSame_L3 N a1 a2 a3 M) 0
theorem c_To_isSame {l : Launch} {g : jG} (N : Nat) (a1 a2 a3 : Int) (M : jMem)  : ∀ o, To_isSame N a1 a2 a3 M = some o → jCt l g jTX yX8_isSame cX8_isSame 5 (some .boolean) 0 10 [(2, 1), (0, a1), (0, a2), (0, a3)] M (o, M) := by
  refine jMet (own := RX8) (em := (fun r => (r, M))) (L := [(0, 2, 1), (1, 0, a1), (2, 0, a2), (3, 0, a3)]) (by decide +kernel) rfl (Nat.le_of_ble_eq_true rfl) rfl (fun K hR => ?_)
  unfold To_isSame
  refine z_iconst (pc := 0) hR dX8_isSame_0 rfl ?_
  refine z_istore (pc := 1) hR (lv' := [(4, 0, 0), (0, 2, 1), (1, 0, a1), (2, 0, a2), (3, 0, a3)]) dX8_isSame_1 (by decide) rfl ?_
  refine z_pick (pc := 3) (lv' := [(0, 2, 1), (1, 0, a1), (2, 0, a2), (3, 0, a3), (4, 0, 0)]) hR [1, 2, 3, 4, 0] rfl ?_
  refine z_fix (σ := Int) (lv := fun s => [(0, 2, 1), (1, 0, a1), (2, 0, a2), (3, 0, a3), (4, 0, s)]) (st := fun _ => []) (M := fun _ => M) (fun h3 hh3 => ?_) N 0
  intro x1
  show jZ K (fun r => (r, M)) 3 [(0, 2, 1), (1, 0, a1), (2, 0, a2), (3, 0, a3), (4, 0, x1)] [] M _
  unfold To_isSame_L3
  refine z_iload (pc := 3) hR 4 dX8_isSame_3 rfl ?_
  refine z_iload_n (pc := 5) hR 3 dX8_isSame_5 rfl rfl ?_
  refine z_icmpge (pc := 6) (tgt := 35) hR dX8_isSame_6 (by decide) ?_ ?_
  · refine z_iconst (pc := 35) hR dX8_isSame_35 rfl ?_
    exact z_zreturn (pc := 36) hR rfl rfl (Or.inr rfl) dX8_isSame_36 rfl
  · refine z_aload_n (pc := 9) hR 0 dX8_isSame_9 rfl rfl ?_
    refine z_iload_n (pc := 10) hR 1 dX8_isSame_10 rfl rfl ?_
    refine z_iload (pc := 11) hR 4 dX8_isSame_11 rfl ?_
    refine z_iadd (pc := 13) hR dX8_isSame_13 ?_
    refine z_chk (fun hc2 => ?_)
    refine z_bald (pc := 14) hR (n := 400) kxa_1 hc2.1 hc2.2 dX8_isSame_14 ?_
    refine z_ldcS (pc := 15) hR (w := 0) (fun U h => h.2.1) dX8_isSame_15 ?_
    refine z_iload_n (pc := 17) hR 2 dX8_isSame_17 rfl rfl ?_
    refine z_iload (pc := 18) hR 4 dX8_isSame_18 rfl ?_
    refine z_iadd (pc := 20) hR dX8_isSame_20 ?_
    refine z_callv4p (pc := 21) hR (As := [(0, (w32 (a2 + x1)))]) (st := [(0, (M 1 ((w32 (a1 + x1)))))]) jm_J0_charAt_5068e jl_RX8_56 (by decide) (by decide) (c_Js_charAt N 0 ((w32 (a2 + x1))) M (by decide)) rfl (by decide) (by decide) rfl (Nat.le_of_ble_eq_true rfl) dX8_isSame_21 (fun r3 => ?_)
    refine z_icmpeq (pc := 24) (tgt := 29) hR dX8_isSame_24 (by decide) ?_ ?_
    · refine z_iinc (pc := 29) hR (j := 4) (lv' := [(4, 0, (w32 (x1 + 1))), (0, 2, 1), (1, 0, a1), (2, 0, a2), (3, 0, a3)]) dX8_isSame_29 rfl (by decide) rfl ?_
      refine z_goto (pc := 32) (tgt := 3) hR dX8_isSame_32 (by decide) ?_
      refine z_pick (pc := 3) (lv' := [(0, 2, 1), (1, 0, a1), (2, 0, a2), (3, 0, a3), (4, 0, (w32 (x1 + 1)))]) hR [1, 2, 3, 4, 0] rfl ?_
      exact hh3 ((w32 (x1 + 1)))
    · refine z_iconst (pc := 27) hR dX8_isSame_27 rfl ?_
      exact z_zreturn (pc := 28) hR rfl rfl (Or.inl rfl) dX8_isSame_28 rfl
theorem dX8_kindOfWord_0 : decode cX8_kindOfWord 0 = .ok (.bipush 17, 2) := by decide +kernel
theorem dX8_kindOfWord_2 : decode cX8_kindOfWord 2 = .ok (.istore_n 3, 1) := by decide +kernel
theorem dX8_kindOfWord_3 : decode cX8_kindOfWord 3 = .ok (.iconst 0, 1) := by decide +kernel
theorem dX8_kindOfWord_4 : decode cX8_kindOfWord 4 = .ok (.istore 4, 2) := by decide +kernel
theorem dX8_kindOfWord_6 : decode cX8_kindOfWord 6 = .ok (.iconst 0, 1) := by decide +kernel
theorem dX8_kindOfWord_7 : decode cX8_kindOfWord 7 = .ok (.istore 5, 2) := by decide +kernel
theorem dX8_kindOfWord_9 : decode cX8_kindOfWord 9 = .ok (.iload 5, 2) := by decide +kernel
theorem dX8_kindOfWord_11 : decode cX8_kindOfWord 11 = .ok (.ldc 48, 2) := by decide +kernel
theorem dX8_kindOfWord_13 : decode cX8_kindOfWord 13 = .ok (.invokevirtual 50, 3) := by decide +kernel
theorem dX8_kindOfWord_16 : decode cX8_kindOfWord 16 = .ok (.if_icmp .ge 58, 3) := by decide +kernel
theorem dX8_kindOfWord_19 : decode cX8_kindOfWord 19 = .ok (.ldc 48, 2) := by decide +kernel
theorem dX8_kindOfWord_21 : decode cX8_kindOfWord 21 = .ok (.iload 5, 2) := by decide +kernel
theorem dX8_kindOfWord_23 : decode cX8_kindOfWord 23 = .ok (.invokevirtual 56, 3) := by decide +kernel
theorem dX8_kindOfWord_26 : decode cX8_kindOfWord 26 = .ok (.bipush 32, 2) := by decide +kernel
theorem dX8_kindOfWord_28 : decode cX8_kindOfWord 28 = .ok (.if_icmp .ne 40, 3) := by decide +kernel
theorem dX8_kindOfWord_31 : decode cX8_kindOfWord 31 = .ok (.iload 5, 2) := by decide +kernel
theorem dX8_kindOfWord_33 : decode cX8_kindOfWord 33 = .ok (.iload 4, 2) := by decide +kernel
theorem dX8_kindOfWord_35 : decode cX8_kindOfWord 35 = .ok (.isub, 1) := by decide +kernel
theorem dX8_kindOfWord_36 : decode cX8_kindOfWord 36 = .ok (.iload_n 2, 1) := by decide +kernel
theorem dX8_kindOfWord_37 : decode cX8_kindOfWord 37 = .ok (.iload_n 1, 1) := by decide +kernel
theorem dX8_kindOfWord_38 : decode cX8_kindOfWord 38 = .ok (.isub, 1) := by decide +kernel
theorem dX8_kindOfWord_39 : decode cX8_kindOfWord 39 = .ok (.if_icmp .ne 20, 3) := by decide +kernel
theorem dX8_kindOfWord_42 : decode cX8_kindOfWord 42 = .ok (.aload_n 0, 1) := by decide +kernel
theorem dX8_kindOfWord_43 : decode cX8_kindOfWord 43 = .ok (.iload_n 1, 1) := by decide +kernel
theorem dX8_kindOfWord_44 : decode cX8_kindOfWord 44 = .ok (.iload 4, 2) := by decide +kernel
theorem dX8_kindOfWord_46 : decode cX8_kindOfWord 46 = .ok (.iload 5, 2) := by decide +kernel
theorem dX8_kindOfWord_48 : decode cX8_kindOfWord 48 = .ok (.iload 4, 2) := by decide +kernel
theorem dX8_kindOfWord_50 : decode cX8_kindOfWord 50 = .ok (.isub, 1) := by decide +kernel
theorem dX8_kindOfWord_51 : decode cX8_kindOfWord 51 = .ok (.invokestatic 60, 3) := by decide +kernel
theorem dX8_kindOfWord_54 : decode cX8_kindOfWord 54 = .ok (.ifCond .eq 5, 3) := by decide +kernel
theorem dX8_kindOfWord_57 : decode cX8_kindOfWord 57 = .ok (.iload_n 3, 1) := by decide +kernel
theorem dX8_kindOfWord_58 : decode cX8_kindOfWord 58 = .ok (.ireturn, 1) := by decide +kernel
theorem dX8_kindOfWord_59 : decode cX8_kindOfWord 59 = .ok (.iinc 3 1, 3) := by decide +kernel
theorem dX8_kindOfWord_62 : decode cX8_kindOfWord 62 = .ok (.iload 5, 2) := by decide +kernel
theorem dX8_kindOfWord_64 : decode cX8_kindOfWord 64 = .ok (.iconst 1, 1) := by decide +kernel
theorem dX8_kindOfWord_65 : decode cX8_kindOfWord 65 = .ok (.iadd, 1) := by decide +kernel
theorem dX8_kindOfWord_66 : decode cX8_kindOfWord 66 = .ok (.istore 4, 2) := by decide +kernel
theorem dX8_kindOfWord_68 : decode cX8_kindOfWord 68 = .ok (.iinc 5 1, 3) := by decide +kernel
theorem dX8_kindOfWord_71 : decode cX8_kindOfWord 71 = .ok (.goto (-62), 3) := by decide +kernel
theorem dX8_kindOfWord_74 : decode cX8_kindOfWord 74 = .ok (.iconst 3, 1) := by decide +kernel
theorem dX8_kindOfWord_75 : decode cX8_kindOfWord 75 = .ok (.ireturn, 1) := by decide +kernel
def To_kindOfWord_L9 (N : Nat) (a1 : Int) (a2 : Int) (M : jMem) (h9 : (Int × Int × Int) → Option Int) : Int × Int × Int → Option Int
  | (x1, x2, x3) => (Js_length N 0 M).bind fun r4 => (if x3 < r4 then (Js_charAt N 0 x3 M).bind fun r5 => (if r5 = 32 then jlt (fun (_ : Unit) => jlt ((w32 (x3 + 1))) fun v6 => h9 ((w32 (x1 + 1)), v6, (w32 (x3 + 1)))) fun j59 => (if (w32 (x3 - x2)) = (w32 (a2 - a1)) then (To_isSame N a1 x2 ((w32 (x3 - x2))) M).bind fun r7 => (if r7 = 0 then j59 () else some x1) else j59 ()) else h9 (x1, x2, (w32 (x3 + 1)))) else some 3)
def To_kindOfWord (N : Nat) (a1 a2 : Int) (M : jMem) : Option Int := jfix N (To_kindOfWord_L9 N a1 a2 M) (17, 0, 0)
theorem c_To_kindOfWord {l : Launch} {g : jG} (N : Nat) (a1 a2 : Int) (M : jMem)  : ∀ o, To_kindOfWord N a1 a2 M = some o → jCt l g jTX yX8_kindOfWord cX8_kindOfWord 6 (some .int) 0 12 [(2, 1), (0, a1), (0, a2)] M (o, M) := by
  refine jMet (own := RX8) (em := (fun r => (r, M))) (L := [(0, 2, 1), (1, 0, a1), (2, 0, a2)]) (by decide +kernel) rfl (Nat.le_of_ble_eq_true rfl) rfl (fun K hR => ?_)
  unfold To_kindOfWord
  refine z_bipush (pc := 0) hR dX8_kindOfWord_0 rfl ?_
  refine z_istore_n (pc := 2) hR (lv' := [(3, 0, 17), (0, 2, 1), (1, 0, a1), (2, 0, a2)]) dX8_kindOfWord_2 rfl (by decide) rfl ?_
  refine z_iconst (pc := 3) hR dX8_kindOfWord_3 rfl ?_
  refine z_istore (pc := 4) hR (lv' := [(4, 0, 0), (3, 0, 17), (0, 2, 1), (1, 0, a1), (2, 0, a2)]) dX8_kindOfWord_4 (by decide) rfl ?_
  refine z_iconst (pc := 6) hR dX8_kindOfWord_6 rfl ?_
  refine z_istore (pc := 7) hR (lv' := [(5, 0, 0), (4, 0, 0), (3, 0, 17), (0, 2, 1), (1, 0, a1), (2, 0, a2)]) dX8_kindOfWord_7 (by decide) rfl ?_
  refine z_pick (pc := 9) (lv' := [(0, 2, 1), (1, 0, a1), (2, 0, a2), (3, 0, 17), (4, 0, 0), (5, 0, 0)]) hR [3, 4, 5, 2, 1, 0] rfl ?_
  refine z_fix (σ := Int × Int × Int) (lv := fun s => [(0, 2, 1), (1, 0, a1), (2, 0, a2), (3, 0, s.1), (4, 0, s.2.1), (5, 0, s.2.2)]) (st := fun _ => []) (M := fun _ => M) (fun h9 hh9 => ?_) N (17, 0, 0)
  rintro ⟨x1, x2, x3⟩
  show jZ K (fun r => (r, M)) 9 [(0, 2, 1), (1, 0, a1), (2, 0, a2), (3, 0, x1), (4, 0, x2), (5, 0, x3)] [] M _
  unfold To_kindOfWord_L9
  refine z_iload (pc := 9) hR 5 dX8_kindOfWord_9 rfl ?_
  refine z_ldcS (pc := 11) hR (w := 0) (fun U h => h.2.1) dX8_kindOfWord_11 ?_
  refine z_callv4p (pc := 13) hR (As := []) (st := [(0, x3)]) jm_J0_length_8abf5 jl_RX8_50 (by decide) (by decide) (c_Js_length N 0 M (by decide)) rfl (by decide) (by decide) rfl (Nat.le_of_ble_eq_true rfl) dX8_kindOfWord_13 (fun r4 => ?_)
  refine z_icmpge (pc := 16) (tgt := 74) hR dX8_kindOfWord_16 (by decide) ?_ ?_
  · refine z_iconst (pc := 74) hR dX8_kindOfWord_74 rfl ?_
    exact z_ireturn (pc := 75) hR rfl rfl dX8_kindOfWord_75 rfl
  · refine z_ldcS (pc := 19) hR (w := 0) (fun U h => h.2.1) dX8_kindOfWord_19 ?_
    refine z_iload (pc := 21) hR 5 dX8_kindOfWord_21 rfl ?_
    refine z_callv4p (pc := 23) hR (As := [(0, x3)]) (st := []) jm_J0_charAt_5068e jl_RX8_56 (by decide) (by decide) (c_Js_charAt N 0 x3 M (by decide)) rfl (by decide) (by decide) rfl (Nat.le_of_ble_eq_true rfl) dX8_kindOfWord_23 (fun r5 => ?_)
    refine z_bipush (pc := 26) hR dX8_kindOfWord_26 rfl ?_
    refine z_icmpne (pc := 28) (tgt := 68) hR dX8_kindOfWord_28 (by decide) ?_ ?_
    · refine z_iinc (pc := 68) hR (j := 5) (lv' := [(5, 0, (w32 (x3 + 1))), (0, 2, 1), (1, 0, a1), (2, 0, a2), (3, 0, x1), (4, 0, x2)]) dX8_kindOfWord_68 rfl (by decide) rfl ?_
      refine z_goto (pc := 71) (tgt := 9) hR dX8_kindOfWord_71 (by decide) ?_
      refine z_pick (pc := 9) (lv' := [(0, 2, 1), (1, 0, a1), (2, 0, a2), (3, 0, x1), (4, 0, x2), (5, 0, (w32 (x3 + 1)))]) hR [1, 2, 3, 4, 5, 0] rfl ?_
      exact hh9 (x1, x2, (w32 (x3 + 1)))
    · refine z_iload (pc := 31) hR 5 dX8_kindOfWord_31 rfl ?_
      refine z_iload (pc := 33) hR 4 dX8_kindOfWord_33 rfl ?_
      refine z_isub (pc := 35) hR dX8_kindOfWord_35 ?_
      refine z_iload_n (pc := 36) hR 2 dX8_kindOfWord_36 rfl rfl ?_
      refine z_iload_n (pc := 37) hR 1 dX8_kindOfWord_37 rfl rfl ?_
      refine z_isub (pc := 38) hR dX8_kindOfWord_38 ?_
      refine z_join (P := fun j => ∀ (_ : Unit), jZ K (fun r => (r, M)) 59 [(0, 2, 1), (1, 0, a1), (2, 0, a2), (3, 0, x1), (5, 0, x3)] [] M (j ())) (fun _ => ?_) (fun j59 hj59 => ?_)
      · refine z_iinc (pc := 59) hR (j := 3) (lv' := [(3, 0, (w32 (x1 + 1))), (0, 2, 1), (1, 0, a1), (2, 0, a2), (5, 0, x3)]) dX8_kindOfWord_59 rfl (by decide) rfl ?_
        refine z_iload (pc := 62) hR 4 dX8_kindOfWord_62 rfl ?_
        refine z_iconst (pc := 64) hR dX8_kindOfWord_64 rfl ?_
        refine z_iadd (pc := 65) hR dX8_kindOfWord_65 ?_
        refine z_let1 (fun v6 => ?_)
        refine z_istore (pc := 66) hR (lv' := [(4, 0, v6), (3, 0, (w32 (x1 + 1))), (0, 2, 1), (1, 0, a1), (2, 0, a2), (5, 0, x3)]) dX8_kindOfWord_66 (by decide) rfl ?_
        refine z_iinc (pc := 68) hR (j := 5) (lv' := [(5, 0, (w32 (x3 + 1))), (4, 0, v6), (3, 0, (w32 (x1 + 1))), (0, 2, 1), (1, 0, a1), (2, 0, a2)]) dX8_kindOfWord_68 rfl (by decide) rfl ?_
        refine z_goto (pc := 71) (tgt := 9) hR dX8_kindOfWord_71 (by decide) ?_
        refine z_pick (pc := 9) (lv' := [(0, 2, 1), (1, 0, a1), (2, 0, a2), (3, 0, (w32 (x1 + 1))), (4, 0, v6), (5, 0, (w32 (x3 + 1)))]) hR [3, 4, 5, 2, 1, 0] rfl ?_
        exact hh9 ((w32 (x1 + 1)), v6, (w32 (x3 + 1)))
      refine z_icmpne (pc := 39) (tgt := 59) hR dX8_kindOfWord_39 (by decide) ?_ ?_
      · refine z_pick (pc := 59) (lv' := [(0, 2, 1), (1, 0, a1), (2, 0, a2), (3, 0, x1), (5, 0, x3)]) hR [0, 1, 2, 3, 5] rfl ?_
        exact hj59 ()
      · refine z_aload_n (pc := 42) hR 0 dX8_kindOfWord_42 rfl rfl ?_
        refine z_iload_n (pc := 43) hR 1 dX8_kindOfWord_43 rfl rfl ?_
        refine z_iload (pc := 44) hR 4 dX8_kindOfWord_44 rfl ?_
        refine z_iload (pc := 46) hR 5 dX8_kindOfWord_46 rfl ?_
        refine z_iload (pc := 48) hR 4 dX8_kindOfWord_48 rfl ?_
        refine z_isub (pc := 50) hR dX8_kindOfWord_50 ?_
        refine z_callsp (pc := 51) hR (As := [(2, 1), (0, a1), (0, x2), (0, (w32 (x3 - x2)))]) (st := []) jm_X8_isSame jl_RX8_60 (by decide) (c_To_isSame N a1 x2 ((w32 (x3 - x2))) M) rfl (by decide) (by decide) rfl (Nat.le_of_ble_eq_true rfl) dX8_kindOfWord_51 (fun r7 => ?_)
        refine z_ifeq (pc := 54) (tgt := 59) hR dX8_kindOfWord_54 (by decide) ?_ ?_
        · refine z_pick (pc := 59) (lv' := [(0, 2, 1), (1, 0, a1), (2, 0, a2), (3, 0, x1), (5, 0, x3)]) hR [0, 1, 2, 3, 5] rfl ?_
          exact hj59 ()
        · refine z_iload_n (pc := 57) hR 3 dX8_kindOfWord_57 rfl rfl ?_
          exact z_ireturn (pc := 58) hR rfl rfl dX8_kindOfWord_58 rfl
theorem dX8_cutWord_0 : decode cX8_cutWord 0 = .ok (.aload_n 0, 1) := by decide +kernel
theorem dX8_cutWord_1 : decode cX8_cutWord 1 = .ok (.getfield 15, 3) := by decide +kernel
theorem dX8_cutWord_4 : decode cX8_cutWord 4 = .ok (.iload_n 3, 1) := by decide +kernel
theorem dX8_cutWord_5 : decode cX8_cutWord 5 = .ok (.iaload, 1) := by decide +kernel
theorem dX8_cutWord_6 : decode cX8_cutWord 6 = .ok (.istore 4, 2) := by decide +kernel
theorem dX8_cutWord_8 : decode cX8_cutWord 8 = .ok (.iload 4, 2) := by decide +kernel
theorem dX8_cutWord_10 : decode cX8_cutWord 10 = .ok (.istore 5, 2) := by decide +kernel
theorem dX8_cutWord_12 : decode cX8_cutWord 12 = .ok (.iload 5, 2) := by decide +kernel
theorem dX8_cutWord_14 : decode cX8_cutWord 14 = .ok (.iload_n 2, 1) := by decide +kernel
theorem dX8_cutWord_15 : decode cX8_cutWord 15 = .ok (.if_icmp .ge 23, 3) := by decide +kernel
theorem dX8_cutWord_18 : decode cX8_cutWord 18 = .ok (.aload_n 1, 1) := by decide +kernel
theorem dX8_cutWord_19 : decode cX8_cutWord 19 = .ok (.iload 5, 2) := by decide +kernel
theorem dX8_cutWord_21 : decode cX8_cutWord 21 = .ok (.baload, 1) := by decide +kernel
theorem dX8_cutWord_22 : decode cX8_cutWord 22 = .ok (.sipush 255, 3) := by decide +kernel
theorem dX8_cutWord_25 : decode cX8_cutWord 25 = .ok (.iand, 1) := by decide +kernel
theorem dX8_cutWord_26 : decode cX8_cutWord 26 = .ok (.invokestatic 29, 3) := by decide +kernel
theorem dX8_cutWord_29 : decode cX8_cutWord 29 = .ok (.ifCond .eq 9, 3) := by decide +kernel
theorem dX8_cutWord_32 : decode cX8_cutWord 32 = .ok (.iinc 5 1, 3) := by decide +kernel
theorem dX8_cutWord_35 : decode cX8_cutWord 35 = .ok (.goto (-23), 3) := by decide +kernel
theorem dX8_cutWord_38 : decode cX8_cutWord 38 = .ok (.aload_n 0, 1) := by decide +kernel
theorem dX8_cutWord_39 : decode cX8_cutWord 39 = .ok (.getfield 9, 3) := by decide +kernel
theorem dX8_cutWord_42 : decode cX8_cutWord 42 = .ok (.iload_n 3, 1) := by decide +kernel
theorem dX8_cutWord_43 : decode cX8_cutWord 43 = .ok (.aload_n 1, 1) := by decide +kernel
theorem dX8_cutWord_44 : decode cX8_cutWord 44 = .ok (.iload 4, 2) := by decide +kernel
theorem dX8_cutWord_46 : decode cX8_cutWord 46 = .ok (.iload 5, 2) := by decide +kernel
theorem dX8_cutWord_48 : decode cX8_cutWord 48 = .ok (.invokestatic 45, 3) := by decide +kernel
theorem dX8_cutWord_51 : decode cX8_cutWord 51 = .ok (.iastore, 1) := by decide +kernel
theorem dX8_cutWord_52 : decode cX8_cutWord 52 = .ok (.iload 5, 2) := by decide +kernel
theorem dX8_cutWord_54 : decode cX8_cutWord 54 = .ok (.ireturn, 1) := by decide +kernel
def To_cutWord_L12 (N : Nat) (a2 : Int) (a3 : Int) (M : jMem) (v2 : Int) (h12 : Int → Option (Int × jMem)) : Int → Option (Int × jMem)
  | x3 => jlt (fun (_ : Unit) => (To_kindOfWord N v2 x3 M).bind fun r4 => jchk (0 ≤ a3 ∧ a3 < 401) <| jlt (up M 3 a3 r4) fun M6 => some (x3, M6)) fun j38 => (if x3 < a2 then jchk (0 ≤ x3 ∧ x3 < 400) <| (To_isSmallLetter N ((jand ((M 1 x3)) 255)) M).bind fun r8 => (if r8 = 0 then j38 () else h12 ((w32 (x3 + 1)))) else j38 ())
def To_cutWord (N : Nat) (a2 a3 : Int) (M : jMem) : Option (Int × jMem) := jchk (0 ≤ a3 ∧ a3 < 401) <| jlt ((M 4 a3)) fun v2 => jfix N (To_cutWord_L12 N a2 a3 M v2) v2
theorem c_To_cutWord {l : Launch} {g : jG} (N : Nat) (a2 a3 : Int) (M : jMem)  : ∀ o, To_cutWord N a2 a3 M = some o → jCt l g jTX yX8_cutWord cX8_cutWord 6 (some .int) 0 14 [(2, 2), (2, 1), (0, a2), (0, a3)] M o := by
  refine jMet (own := RX8) (em := id) (L := [(0, 2, 2), (1, 2, 1), (2, 0, a2), (3, 0, a3)]) (by decide +kernel) rfl (Nat.le_of_ble_eq_true rfl) rfl (fun K hR => ?_)
  unfold To_cutWord
  refine z_aload_n (pc := 0) hR 0 dX8_cutWord_0 rfl rfl ?_
  refine z_getr (pc := 1) hR (c0 := 2) (r := 4) jf_RX8_15 kxo_2 (by decide) rfl rfl dX8_cutWord_1 ?_
  refine z_iload_n (pc := 4) hR 3 dX8_cutWord_4 rfl rfl ?_
  refine z_chk (fun hc1 => ?_)
  refine z_iald (pc := 5) hR (n := 401) kxa_4 hc1.1 hc1.2 dX8_cutWord_5 ?_
  refine z_let1 (fun v2 => ?_)
  refine z_istore (pc := 6) hR (lv' := [(4, 0, v2), (0, 2, 2), (1, 2, 1), (2, 0, a2), (3, 0, a3)]) dX8_cutWord_6 (by decide) rfl ?_
  refine z_iload (pc := 8) hR 0 dX8_cutWord_8 rfl ?_
  refine z_istore (pc := 10) hR (lv' := [(5, 0, v2), (4, 0, v2), (0, 2, 2), (1, 2, 1), (2, 0, a2), (3, 0, a3)]) dX8_cutWord_10 (by decide) rfl ?_
  refine z_pick (pc := 12) (lv' := [(0, 2, 2), (1, 2, 1), (2, 0, a2), (3, 0, a3), (4, 0, v2), (5, 0, v2)]) hR [2, 3, 4, 5, 1, 0] rfl ?_
  refine z_fix (σ := Int) (lv := fun s => [(0, 2, 2), (1, 2, 1), (2, 0, a2), (3, 0, a3), (4, 0, v2), (5, 0, s)]) (st := fun _ => []) (M := fun _ => M) (fun h12 hh12 => ?_) N v2
  intro x3
  show jZ K id 12 [(0, 2, 2), (1, 2, 1), (2, 0, a2), (3, 0, a3), (4, 0, v2), (5, 0, x3)] [] M _
  unfold To_cutWord_L12
  refine z_iload (pc := 12) hR 5 dX8_cutWord_12 rfl ?_
  refine z_iload_n (pc := 14) hR 2 dX8_cutWord_14 rfl rfl ?_
  refine z_join (P := fun j => ∀ (_ : Unit), jZ K id 38 [(0, 2, 2), (1, 2, 1), (3, 0, a3), (4, 0, v2), (5, 0, x3)] [] M (j ())) (fun _ => ?_) (fun j38 hj38 => ?_)
  · refine z_aload_n (pc := 38) hR 0 dX8_cutWord_38 rfl rfl ?_
    refine z_getr (pc := 39) hR (c0 := 1) (r := 3) jf_RX8_9 kxo_2 (by decide) rfl rfl dX8_cutWord_39 ?_
    refine z_iload_n (pc := 42) hR 2 dX8_cutWord_42 rfl rfl ?_
    refine z_aload_n (pc := 43) hR 1 dX8_cutWord_43 rfl rfl ?_
    refine z_iload (pc := 44) hR 3 dX8_cutWord_44 rfl ?_
    refine z_iload (pc := 46) hR 4 dX8_cutWord_46 rfl ?_
    refine z_callsp (pc := 48) hR (As := [(2, 1), (0, v2), (0, x3)]) (st := [(0, a3), (2, 3)]) jm_X8_kindOfWord jl_RX8_45 (by decide) (c_To_kindOfWord N v2 x3 M) rfl (by decide) (by decide) rfl (Nat.le_of_ble_eq_true rfl) dX8_cutWord_48 (fun r4 => ?_)
    refine z_chk (fun hc5 => ?_)
    refine z_iast (pc := 51) hR (n := 401) kxa_3 hc5.1 hc5.2 dX8_cutWord_51 (fun M6 => ?_)
    refine z_iload (pc := 52) hR 4 dX8_cutWord_52 rfl ?_
    exact z_ireturn (pc := 54) hR rfl rfl dX8_cutWord_54 rfl
  refine z_icmpge (pc := 15) (tgt := 38) hR dX8_cutWord_15 (by decide) ?_ ?_
  · refine z_pick (pc := 38) (lv' := [(0, 2, 2), (1, 2, 1), (3, 0, a3), (4, 0, v2), (5, 0, x3)]) hR [0, 1, 3, 4, 5] rfl ?_
    exact hj38 ()
  · refine z_aload_n (pc := 18) hR 1 dX8_cutWord_18 rfl rfl ?_
    refine z_iload (pc := 19) hR 5 dX8_cutWord_19 rfl ?_
    refine z_chk (fun hc7 => ?_)
    refine z_bald (pc := 21) hR (n := 400) kxa_1 hc7.1 hc7.2 dX8_cutWord_21 ?_
    refine z_sipush (pc := 22) hR dX8_cutWord_22 rfl ?_
    refine z_iand (pc := 25) hR dX8_cutWord_25 ?_
    refine z_callsp (pc := 26) hR (As := [(0, (jand ((M 1 x3)) 255))]) (st := []) jm_X8_isSmallLetter jl_RX8_29 (by decide) (c_To_isSmallLetter N ((jand ((M 1 x3)) 255)) M) rfl (by decide) (by decide) rfl (Nat.le_of_ble_eq_true rfl) dX8_cutWord_26 (fun r8 => ?_)
    refine z_ifeq (pc := 29) (tgt := 38) hR dX8_cutWord_29 (by decide) ?_ ?_
    · refine z_pick (pc := 38) (lv' := [(0, 2, 2), (1, 2, 1), (3, 0, a3), (4, 0, v2), (5, 0, x3)]) hR [0, 1, 3, 4, 5] rfl ?_
      exact hj38 ()
    · refine z_iinc (pc := 32) hR (j := 5) (lv' := [(5, 0, (w32 (x3 + 1))), (0, 2, 2), (1, 2, 1), (2, 0, a2), (3, 0, a3), (4, 0, v2)]) dX8_cutWord_32 rfl (by decide) rfl ?_
      refine z_goto (pc := 35) (tgt := 12) hR dX8_cutWord_35 (by decide) ?_
      refine z_pick (pc := 12) (lv' := [(0, 2, 2), (1, 2, 1), (2, 0, a2), (3, 0, a3), (4, 0, v2), (5, 0, (w32 (x3 + 1)))]) hR [1, 2, 3, 4, 5, 0] rfl ?_
      exact hh12 ((w32 (x3 + 1)))
theorem dJ1_canEncode_9a6ad_0 : decode cJ1_canEncode_9a6ad 0 = .ok (.iload_n 0, 1) := by decide +kernel
theorem dJ1_canEncode_9a6ad_1 : decode cJ1_canEncode_9a6ad 1 = .ok (.ifCond .lt 14, 3) := by decide +kernel
theorem dJ1_canEncode_9a6ad_4 : decode cJ1_canEncode_9a6ad 4 = .ok (.iload_n 0, 1) := by decide +kernel
theorem dJ1_canEncode_9a6ad_5 : decode cJ1_canEncode_9a6ad 5 = .ok (.sipush 255, 3) := by decide +kernel
theorem dJ1_canEncode_9a6ad_8 : decode cJ1_canEncode_9a6ad 8 = .ok (.if_icmp .gt 7, 3) := by decide +kernel
theorem dJ1_canEncode_9a6ad_11 : decode cJ1_canEncode_9a6ad 11 = .ok (.iconst 1, 1) := by decide +kernel
theorem dJ1_canEncode_9a6ad_12 : decode cJ1_canEncode_9a6ad 12 = .ok (.goto 4, 3) := by decide +kernel
theorem dJ1_canEncode_9a6ad_15 : decode cJ1_canEncode_9a6ad 15 = .ok (.iconst 0, 1) := by decide +kernel
theorem dJ1_canEncode_9a6ad_16 : decode cJ1_canEncode_9a6ad 16 = .ok (.ireturn, 1) := by decide +kernel
def Jl_canEncode (N : Nat) (a0 : Int) (M : jMem) : Option Int := (if a0 < 0 then some 0 else (if 255 < a0 then some 0 else some 1))
theorem c_Jl_canEncode {l : Launch} {g : jG} (N : Nat) (a0 : Int) (M : jMem)  : ∀ o, Jl_canEncode N a0 M = some o → jCt l g jTX yJ1_canEncode_9a6ad cJ1_canEncode_9a6ad 1 (some .boolean) 0 1 [(0, a0)] M (o, M) := by
  refine jMet (own := RJ1) (em := (fun r => (r, M))) (L := [(0, 0, a0)]) (by decide +kernel) rfl (Nat.le_of_ble_eq_true rfl) rfl (fun K hR => ?_)
  unfold Jl_canEncode
  refine z_iload_n (pc := 0) hR 0 dJ1_canEncode_9a6ad_0 rfl rfl ?_
  refine z_iflt (pc := 1) (tgt := 15) hR dJ1_canEncode_9a6ad_1 (by decide) ?_ ?_
  · refine z_iconst (pc := 15) hR dJ1_canEncode_9a6ad_15 rfl ?_
    exact z_zreturn (pc := 16) hR rfl rfl (Or.inl rfl) dJ1_canEncode_9a6ad_16 rfl
  · refine z_iload_n (pc := 4) hR 0 dJ1_canEncode_9a6ad_4 rfl rfl ?_
    refine z_sipush (pc := 5) hR dJ1_canEncode_9a6ad_5 rfl ?_
    refine z_icmpgt (pc := 8) (tgt := 15) hR dJ1_canEncode_9a6ad_8 (by decide) ?_ ?_
    · refine z_iconst (pc := 15) hR dJ1_canEncode_9a6ad_15 rfl ?_
      exact z_zreturn (pc := 16) hR rfl rfl (Or.inl rfl) dJ1_canEncode_9a6ad_16 rfl
    · refine z_iconst (pc := 11) hR dJ1_canEncode_9a6ad_11 rfl ?_
      refine z_goto (pc := 12) (tgt := 16) hR dJ1_canEncode_9a6ad_12 (by decide) ?_
      exact z_zreturn (pc := 16) hR rfl rfl (Or.inr rfl) dJ1_canEncode_9a6ad_16 rfl
theorem dJ1_indexOfChar_4cfef_0 : decode cJ1_indexOfChar_4cfef 0 = .ok (.iload_n 1, 1) := by decide +kernel
theorem dJ1_indexOfChar_4cfef_1 : decode cJ1_indexOfChar_4cfef 1 = .ok (.i2b, 1) := by decide +kernel
theorem dJ1_indexOfChar_4cfef_2 : decode cJ1_indexOfChar_4cfef 2 = .ok (.istore 4, 2) := by decide +kernel
theorem dJ1_indexOfChar_4cfef_4 : decode cJ1_indexOfChar_4cfef 4 = .ok (.iload_n 2, 1) := by decide +kernel
theorem dJ1_indexOfChar_4cfef_5 : decode cJ1_indexOfChar_4cfef 5 = .ok (.istore 5, 2) := by decide +kernel
theorem dJ1_indexOfChar_4cfef_7 : decode cJ1_indexOfChar_4cfef 7 = .ok (.iload 5, 2) := by decide +kernel
theorem dJ1_indexOfChar_4cfef_9 : decode cJ1_indexOfChar_4cfef 9 = .ok (.iload_n 3, 1) := by decide +kernel
theorem dJ1_indexOfChar_4cfef_10 : decode cJ1_indexOfChar_4cfef 10 = .ok (.if_icmp .ge 21, 3) := by decide +kernel
theorem dJ1_indexOfChar_4cfef_13 : decode cJ1_indexOfChar_4cfef 13 = .ok (.aload_n 0, 1) := by decide +kernel
theorem dJ1_indexOfChar_4cfef_14 : decode cJ1_indexOfChar_4cfef 14 = .ok (.iload 5, 2) := by decide +kernel
theorem dJ1_indexOfChar_4cfef_16 : decode cJ1_indexOfChar_4cfef 16 = .ok (.baload, 1) := by decide +kernel
theorem dJ1_indexOfChar_4cfef_17 : decode cJ1_indexOfChar_4cfef 17 = .ok (.iload 4, 2) := by decide +kernel
theorem dJ1_indexOfChar_4cfef_19 : decode cJ1_indexOfChar_4cfef 19 = .ok (.if_icmp .ne 6, 3) := by decide +kernel
theorem dJ1_indexOfChar_4cfef_22 : decode cJ1_indexOfChar_4cfef 22 = .ok (.iload 5, 2) := by decide +kernel
theorem dJ1_indexOfChar_4cfef_24 : decode cJ1_indexOfChar_4cfef 24 = .ok (.ireturn, 1) := by decide +kernel
theorem dJ1_indexOfChar_4cfef_25 : decode cJ1_indexOfChar_4cfef 25 = .ok (.iinc 5 1, 3) := by decide +kernel
theorem dJ1_indexOfChar_4cfef_28 : decode cJ1_indexOfChar_4cfef 28 = .ok (.goto (-21), 3) := by decide +kernel
theorem dJ1_indexOfChar_4cfef_31 : decode cJ1_indexOfChar_4cfef 31 = .ok (.iconst (-1), 1) := by decide +kernel
theorem dJ1_indexOfChar_4cfef_32 : decode cJ1_indexOfChar_4cfef 32 = .ok (.ireturn, 1) := by decide +kernel
def Jl_indexOfChar_L7 (N : Nat) (w : Nat) (a3 : Int) (v1 : Int) (h7 : Int → Option Int) : Int → Option Int
  | x2 => (if x2 < a3 then jchk (0 ≤ x2 ∧ x2 < jSl w) <| (if (jSb w x2) = v1 then some x2 else h7 ((w32 (x2 + 1)))) else some ((-1)))
def Jl_indexOfChar (N : Nat) (w : Nat) (a1 a2 a3 : Int) (M : jMem) : Option Int := jlt ((w8 a1)) fun v1 => jfix N (Jl_indexOfChar_L7 N w a3 v1) a2
theorem c_Jl_indexOfChar {l : Launch} {g : jG} (N : Nat) (w : Nat) (a1 a2 a3 : Int) (M : jMem) (hw : w < 2) : ∀ o, Jl_indexOfChar N w a1 a2 a3 M = some o → jCt l g jTX yJ1_indexOfChar_4cfef cJ1_indexOfChar_4cfef 6 (some .int) 0 1 [(4, (jSv g w)), (0, a1), (0, a2), (0, a3)] M (o, M) := by
  refine jMet (own := RJ1) (em := (fun r => (r, M))) (L := [(0, 4, (jSv g w)), (1, 0, a1), (2, 0, a2), (3, 0, a3)]) (by decide +kernel) rfl (Nat.le_of_ble_eq_true rfl) rfl (fun K hR => ?_)
  unfold Jl_indexOfChar
  refine z_iload_n (pc := 0) hR 1 dJ1_indexOfChar_4cfef_0 rfl rfl ?_
  refine z_i2b (pc := 1) hR dJ1_indexOfChar_4cfef_1 ?_
  refine z_let1 (fun v1 => ?_)
  refine z_istore (pc := 2) hR (lv' := [(4, 0, v1), (0, 4, (jSv g w)), (1, 0, a1), (2, 0, a2), (3, 0, a3)]) dJ1_indexOfChar_4cfef_2 (by decide) rfl ?_
  refine z_iload_n (pc := 4) hR 3 dJ1_indexOfChar_4cfef_4 rfl rfl ?_
  refine z_istore (pc := 5) hR (lv' := [(5, 0, a2), (4, 0, v1), (0, 4, (jSv g w)), (1, 0, a1), (2, 0, a2), (3, 0, a3)]) dJ1_indexOfChar_4cfef_5 (by decide) rfl ?_
  refine z_pick (pc := 7) (lv' := [(0, 4, (jSv g w)), (3, 0, a3), (4, 0, v1), (5, 0, a2)]) hR [2, 5, 1, 0] rfl ?_
  refine z_fix (σ := Int) (lv := fun s => [(0, 4, (jSv g w)), (3, 0, a3), (4, 0, v1), (5, 0, s)]) (st := fun _ => []) (M := fun _ => M) (fun h7 hh7 => ?_) N a2
  intro x2
  show jZ K (fun r => (r, M)) 7 [(0, 4, (jSv g w)), (3, 0, a3), (4, 0, v1), (5, 0, x2)] [] M _
  unfold Jl_indexOfChar_L7
  refine z_iload (pc := 7) hR 3 dJ1_indexOfChar_4cfef_7 rfl ?_
  refine z_iload_n (pc := 9) hR 1 dJ1_indexOfChar_4cfef_9 rfl rfl ?_
  refine z_icmpge (pc := 10) (tgt := 31) hR dJ1_indexOfChar_4cfef_10 (by decide) ?_ ?_
  · refine z_iconst (pc := 31) hR dJ1_indexOfChar_4cfef_31 rfl ?_
    exact z_ireturn (pc := 32) hR rfl rfl dJ1_indexOfChar_4cfef_32 rfl
  · refine z_aload4_n (pc := 13) hR 0 dJ1_indexOfChar_4cfef_13 rfl rfl ?_
    refine z_iload (pc := 14) hR 3 dJ1_indexOfChar_4cfef_14 rfl ?_
    refine z_chk (fun hc3 => ?_)
    refine z_bbld (pc := 16) hR hw hc3.1 hc3.2 dJ1_indexOfChar_4cfef_16 ?_
    refine z_iload (pc := 17) hR 2 dJ1_indexOfChar_4cfef_17 rfl ?_
    refine z_icmpne (pc := 19) (tgt := 25) hR dJ1_indexOfChar_4cfef_19 (by decide) ?_ ?_
    · refine z_iinc (pc := 25) hR (j := 3) (lv' := [(5, 0, (w32 (x2 + 1))), (0, 4, (jSv g w)), (3, 0, a3), (4, 0, v1)]) dJ1_indexOfChar_4cfef_25 rfl (by decide) rfl ?_
      refine z_goto (pc := 28) (tgt := 7) hR dJ1_indexOfChar_4cfef_28 (by decide) ?_
      refine z_pick (pc := 7) (lv' := [(0, 4, (jSv g w)), (3, 0, a3), (4, 0, v1), (5, 0, (w32 (x2 + 1)))]) hR [1, 2, 3, 0] rfl ?_
      exact hh7 ((w32 (x2 + 1)))
    · refine z_iload (pc := 22) hR 3 dJ1_indexOfChar_4cfef_22 rfl ?_
      exact z_ireturn (pc := 24) hR rfl rfl dJ1_indexOfChar_4cfef_24 rfl
theorem dJ1_indexOf_4cfef_0 : decode cJ1_indexOf_4cfef 0 = .ok (.iload_n 1, 1) := by decide +kernel
theorem dJ1_indexOf_4cfef_1 : decode cJ1_indexOf_4cfef 1 = .ok (.invokestatic 88, 3) := by decide +kernel
theorem dJ1_indexOf_4cfef_4 : decode cJ1_indexOf_4cfef 4 = .ok (.ifCond .ne 5, 3) := by decide +kernel
theorem dJ1_indexOf_4cfef_7 : decode cJ1_indexOf_4cfef 7 = .ok (.iconst (-1), 1) := by decide +kernel
theorem dJ1_indexOf_4cfef_8 : decode cJ1_indexOf_4cfef 8 = .ok (.ireturn, 1) := by decide +kernel
theorem dJ1_indexOf_4cfef_9 : decode cJ1_indexOf_4cfef 9 = .ok (.iload_n 2, 1) := by decide +kernel
theorem dJ1_indexOf_4cfef_10 : decode cJ1_indexOf_4cfef 10 = .ok (.iconst 0, 1) := by decide +kernel
theorem dJ1_indexOf_4cfef_11 : decode cJ1_indexOf_4cfef 11 = .ok (.invokestatic 92, 3) := by decide +kernel
theorem dJ1_indexOf_4cfef_14 : decode cJ1_indexOf_4cfef 14 = .ok (.istore_n 2, 1) := by decide +kernel
theorem dJ1_indexOf_4cfef_15 : decode cJ1_indexOf_4cfef 15 = .ok (.iload_n 3, 1) := by decide +kernel
theorem dJ1_indexOf_4cfef_16 : decode cJ1_indexOf_4cfef 16 = .ok (.aload_n 0, 1) := by decide +kernel
theorem dJ1_indexOf_4cfef_17 : decode cJ1_indexOf_4cfef 17 = .ok (.arraylength, 1) := by decide +kernel
theorem dJ1_indexOf_4cfef_18 : decode cJ1_indexOf_4cfef 18 = .ok (.invokestatic 38, 3) := by decide +kernel
theorem dJ1_indexOf_4cfef_21 : decode cJ1_indexOf_4cfef 21 = .ok (.istore_n 3, 1) := by decide +kernel
theorem dJ1_indexOf_4cfef_22 : decode cJ1_indexOf_4cfef 22 = .ok (.iload_n 2, 1) := by decide +kernel
theorem dJ1_indexOf_4cfef_23 : decode cJ1_indexOf_4cfef 23 = .ok (.iload_n 3, 1) := by decide +kernel
theorem dJ1_indexOf_4cfef_24 : decode cJ1_indexOf_4cfef 24 = .ok (.if_icmp .lt 5, 3) := by decide +kernel
theorem dJ1_indexOf_4cfef_27 : decode cJ1_indexOf_4cfef 27 = .ok (.iconst (-1), 1) := by decide +kernel
theorem dJ1_indexOf_4cfef_28 : decode cJ1_indexOf_4cfef 28 = .ok (.ireturn, 1) := by decide +kernel
theorem dJ1_indexOf_4cfef_29 : decode cJ1_indexOf_4cfef 29 = .ok (.aload_n 0, 1) := by decide +kernel
theorem dJ1_indexOf_4cfef_30 : decode cJ1_indexOf_4cfef 30 = .ok (.iload_n 1, 1) := by decide +kernel
theorem dJ1_indexOf_4cfef_31 : decode cJ1_indexOf_4cfef 31 = .ok (.iload_n 2, 1) := by decide +kernel
theorem dJ1_indexOf_4cfef_32 : decode cJ1_indexOf_4cfef 32 = .ok (.iload_n 3, 1) := by decide +kernel
theorem dJ1_indexOf_4cfef_33 : decode cJ1_indexOf_4cfef 33 = .ok (.invokestatic 95, 3) := by decide +kernel
theorem dJ1_indexOf_4cfef_36 : decode cJ1_indexOf_4cfef 36 = .ok (.ireturn, 1) := by decide +kernel
def Jl_indexOf (N : Nat) (w : Nat) (a1 a2 a3 : Int) (M : jMem) : Option Int := (Jl_canEncode N a1 M).bind fun r1 => (if r1 = 0 then some ((-1)) else jlt ((jmax a2 0)) fun v2 => jlt ((jmin a3 ((jSl w)))) fun v3 => (if v2 < v3 then (Jl_indexOfChar N w a1 v2 v3 M).bind fun r4 => some r4 else some ((-1))))
theorem c_Jl_indexOf {l : Launch} {g : jG} (N : Nat) (w : Nat) (a1 a2 a3 : Int) (M : jMem) (hw : w < 2) : ∀ o, Jl_indexOf N w a1 a2 a3 M = some o → jCt l g jTX yJ1_indexOf_4cfef cJ1_indexOf_4cfef 4 (some .int) 0 3 [(4, (jSv g w)), (0, a1), (0, a2), (0, a3)] M (o, M) := by
  refine jMet (own := RJ1) (em := (fun r => (r, M))) (L := [(0, 4, (jSv g w)), (1, 0, a1), (2, 0, a2), (3, 0, a3)]) (by decide +kernel) rfl (Nat.le_of_ble_eq_true rfl) rfl (fun K hR => ?_)
  unfold Jl_indexOf
  refine z_iload_n (pc := 0) hR 1 dJ1_indexOf_4cfef_0 rfl rfl ?_
  refine z_callsp (pc := 1) hR (As := [(0, a1)]) (st := []) jm_J1_canEncode_9a6ad jl_RJ1_88 (by decide) (c_Jl_canEncode N a1 M) rfl (by decide) (by decide) rfl (Nat.le_of_ble_eq_true rfl) dJ1_indexOf_4cfef_1 (fun r1 => ?_)
  refine z_ifne (pc := 4) (tgt := 9) hR dJ1_indexOf_4cfef_4 (by decide) ?_ ?_
  · refine z_iload_n (pc := 9) hR 2 dJ1_indexOf_4cfef_9 rfl rfl ?_
    refine z_iconst (pc := 10) hR dJ1_indexOf_4cfef_10 rfl ?_
    refine z_mmax (pc := 11) hR jl_RJ1_92 jw_max_s jw_Math jw_max_c (by decide) (Nat.le_of_ble_eq_true rfl) dJ1_indexOf_4cfef_11 ?_
    refine z_let1 (fun v2 => ?_)
    refine z_istore_n (pc := 14) hR (lv' := [(2, 0, v2), (0, 4, (jSv g w)), (1, 0, a1), (3, 0, a3)]) dJ1_indexOf_4cfef_14 rfl (by decide) rfl ?_
    refine z_iload_n (pc := 15) hR 3 dJ1_indexOf_4cfef_15 rfl rfl ?_
    refine z_aload4_n (pc := 16) hR 1 dJ1_indexOf_4cfef_16 rfl rfl ?_
    refine z_blen (pc := 17) hR hw dJ1_indexOf_4cfef_17 ?_
    refine z_mmin (pc := 18) hR jl_RJ1_38 jw_min_s jw_Math jw_min_c (by decide) (Nat.le_of_ble_eq_true rfl) dJ1_indexOf_4cfef_18 ?_
    refine z_let1 (fun v3 => ?_)
    refine z_istore_n (pc := 21) hR (lv' := [(3, 0, v3), (2, 0, v2), (0, 4, (jSv g w)), (1, 0, a1)]) dJ1_indexOf_4cfef_21 rfl (by decide) rfl ?_
    refine z_iload_n (pc := 22) hR 1 dJ1_indexOf_4cfef_22 rfl rfl ?_
    refine z_iload_n (pc := 23) hR 0 dJ1_indexOf_4cfef_23 rfl rfl ?_
    refine z_icmplt (pc := 24) (tgt := 29) hR dJ1_indexOf_4cfef_24 (by decide) ?_ ?_
    · refine z_aload4_n (pc := 29) hR 2 dJ1_indexOf_4cfef_29 rfl rfl ?_
      refine z_iload_n (pc := 30) hR 3 dJ1_indexOf_4cfef_30 rfl rfl ?_
      refine z_iload_n (pc := 31) hR 1 dJ1_indexOf_4cfef_31 rfl rfl ?_
      refine z_iload_n (pc := 32) hR 0 dJ1_indexOf_4cfef_32 rfl rfl ?_
      refine z_callsp (pc := 33) hR (As := [(4, (jSv g w)), (0, a1), (0, v2), (0, v3)]) (st := []) jm_J1_indexOfChar_4cfef jl_RJ1_95 (by decide) (c_Jl_indexOfChar N w a1 v2 v3 M hw) rfl (by decide) (by decide) rfl (Nat.le_of_ble_eq_true rfl) dJ1_indexOf_4cfef_33 (fun r4 => ?_)
      exact z_ireturn (pc := 36) hR rfl rfl dJ1_indexOf_4cfef_36 rfl
    · refine z_iconst (pc := 27) hR dJ1_indexOf_4cfef_27 rfl ?_
      exact z_ireturn (pc := 28) hR rfl rfl dJ1_indexOf_4cfef_28 rfl
  · refine z_iconst (pc := 7) hR dJ1_indexOf_4cfef_7 rfl ?_
    exact z_ireturn (pc := 8) hR rfl rfl dJ1_indexOf_4cfef_8 rfl
theorem dJ0_indexOf_7cf53_0 : decode cJ0_indexOf_7cf53 0 = .ok (.aload_n 0, 1) := by decide +kernel
theorem dJ0_indexOf_7cf53_1 : decode cJ0_indexOf_7cf53 1 = .ok (.invokevirtual 492, 3) := by decide +kernel
theorem dJ0_indexOf_7cf53_4 : decode cJ0_indexOf_7cf53 4 = .ok (.ifCond .eq 19, 3) := by decide +kernel
theorem dJ0_indexOf_7cf53_7 : decode cJ0_indexOf_7cf53 7 = .ok (.aload_n 0, 1) := by decide +kernel
theorem dJ0_indexOf_7cf53_8 : decode cJ0_indexOf_7cf53 8 = .ok (.getfield 9, 3) := by decide +kernel
theorem dJ0_indexOf_7cf53_11 : decode cJ0_indexOf_7cf53 11 = .ok (.iload_n 1, 1) := by decide +kernel
theorem dJ0_indexOf_7cf53_12 : decode cJ0_indexOf_7cf53 12 = .ok (.iload_n 2, 1) := by decide +kernel
theorem dJ0_indexOf_7cf53_13 : decode cJ0_indexOf_7cf53 13 = .ok (.aload_n 0, 1) := by decide +kernel
theorem dJ0_indexOf_7cf53_14 : decode cJ0_indexOf_7cf53 14 = .ok (.invokevirtual 505, 3) := by decide +kernel
theorem dJ0_indexOf_7cf53_17 : decode cJ0_indexOf_7cf53 17 = .ok (.invokestatic 637, 3) := by decide +kernel
theorem dJ0_indexOf_7cf53_20 : decode cJ0_indexOf_7cf53 20 = .ok (.goto 16, 3) := by decide +kernel
theorem dJ0_indexOf_7cf53_23 : decode cJ0_indexOf_7cf53 23 = .ok (.aload_n 0, 1) := by decide +kernel
theorem dJ0_indexOf_7cf53_24 : decode cJ0_indexOf_7cf53 24 = .ok (.getfield 9, 3) := by decide +kernel
theorem dJ0_indexOf_7cf53_27 : decode cJ0_indexOf_7cf53 27 = .ok (.iload_n 1, 1) := by decide +kernel
theorem dJ0_indexOf_7cf53_28 : decode cJ0_indexOf_7cf53 28 = .ok (.iload_n 2, 1) := by decide +kernel
theorem dJ0_indexOf_7cf53_29 : decode cJ0_indexOf_7cf53 29 = .ok (.aload_n 0, 1) := by decide +kernel
theorem dJ0_indexOf_7cf53_30 : decode cJ0_indexOf_7cf53 30 = .ok (.invokevirtual 505, 3) := by decide +kernel
theorem dJ0_indexOf_7cf53_36 : decode cJ0_indexOf_7cf53 36 = .ok (.ireturn, 1) := by decide +kernel
def Js_indexOf2 (N : Nat) (w : Nat) (a1 a2 : Int) (M : jMem) : Option Int := (Js_isLatin1 N w M).bind fun r1 => (if r1 = 0 then (Js_length N w M).bind fun r2 => none else (Js_length N w M).bind fun r3 => (Jl_indexOf N w a1 a2 r3 M).bind fun r4 => some r4)
theorem c_Js_indexOf2 {l : Launch} {g : jG} (N : Nat) (w : Nat) (a1 a2 : Int) (M : jMem) (hw : w < 2) : ∀ o, Js_indexOf2 N w a1 a2 M = some o → jCt l g jTX yJ0_indexOf_7cf53 cJ0_indexOf_7cf53 3 (some .int) 0 5 [(4, (jSa g w)), (0, a1), (0, a2)] M (o, M) := by
  refine jMet (own := RJ0) (em := (fun r => (r, M))) (L := [(0, 4, (jSa g w)), (1, 0, a1), (2, 0, a2)]) (by decide +kernel) rfl (Nat.le_of_ble_eq_true rfl) rfl (fun K hR => ?_)
  unfold Js_indexOf2
  refine z_aload4_n (pc := 0) hR 0 dJ0_indexOf_7cf53_0 rfl rfl ?_
  refine z_callv4p (pc := 1) hR (As := []) (st := []) jm_J0_isLatin1_aae02 jl_RJ0_492 hw (by decide) (c_Js_isLatin1 N w M hw) rfl (by decide) (by decide) rfl (Nat.le_of_ble_eq_true rfl) dJ0_indexOf_7cf53_1 (fun r1 => ?_)
  refine z_ifeq (pc := 4) (tgt := 23) hR dJ0_indexOf_7cf53_4 (by decide) ?_ ?_
  · refine z_aload4_n (pc := 23) hR 0 dJ0_indexOf_7cf53_23 rfl rfl ?_
    refine z_sgetv (pc := 24) hR hw jf_RJ0_9 dJ0_indexOf_7cf53_24 ?_
    refine z_iload_n (pc := 27) hR 1 dJ0_indexOf_7cf53_27 rfl rfl ?_
    refine z_iload_n (pc := 28) hR 2 dJ0_indexOf_7cf53_28 rfl rfl ?_
    refine z_aload4_n (pc := 29) hR 0 dJ0_indexOf_7cf53_29 rfl rfl ?_
    refine z_callv4p (pc := 30) hR (As := []) (st := [(0, a2), (0, a1), (4, (jSv g w))]) jm_J0_length_8abf5 jl_RJ0_505 hw (by decide) (c_Js_length N w M hw) rfl (by decide) (by decide) rfl (Nat.le_of_ble_eq_true rfl) dJ0_indexOf_7cf53_30 (fun r2 => ?_)
    exact z_none
  · refine z_aload4_n (pc := 7) hR 0 dJ0_indexOf_7cf53_7 rfl rfl ?_
    refine z_sgetv (pc := 8) hR hw jf_RJ0_9 dJ0_indexOf_7cf53_8 ?_
    refine z_iload_n (pc := 11) hR 1 dJ0_indexOf_7cf53_11 rfl rfl ?_
    refine z_iload_n (pc := 12) hR 2 dJ0_indexOf_7cf53_12 rfl rfl ?_
    refine z_aload4_n (pc := 13) hR 0 dJ0_indexOf_7cf53_13 rfl rfl ?_
    refine z_callv4p (pc := 14) hR (As := []) (st := [(0, a2), (0, a1), (4, (jSv g w))]) jm_J0_length_8abf5 jl_RJ0_505 hw (by decide) (c_Js_length N w M hw) rfl (by decide) (by decide) rfl (Nat.le_of_ble_eq_true rfl) dJ0_indexOf_7cf53_14 (fun r3 => ?_)
    refine z_callsp (pc := 17) hR (As := [(4, (jSv g w)), (0, a1), (0, a2), (0, r3)]) (st := []) jm_J1_indexOf_4cfef jl_RJ0_637 (by decide) (c_Jl_indexOf N w a1 a2 r3 M hw) rfl (by decide) (by decide) rfl (Nat.le_of_ble_eq_true rfl) dJ0_indexOf_7cf53_17 (fun r4 => ?_)
    refine z_goto (pc := 20) (tgt := 36) hR dJ0_indexOf_7cf53_20 (by decide) ?_
    exact z_ireturn (pc := 36) hR rfl rfl dJ0_indexOf_7cf53_36 rfl
theorem dJ0_indexOf_0f7a4_0 : decode cJ0_indexOf_0f7a4 0 = .ok (.aload_n 0, 1) := by decide +kernel
theorem dJ0_indexOf_0f7a4_1 : decode cJ0_indexOf_0f7a4 1 = .ok (.iload_n 1, 1) := by decide +kernel
theorem dJ0_indexOf_0f7a4_2 : decode cJ0_indexOf_0f7a4 2 = .ok (.iconst 0, 1) := by decide +kernel
theorem dJ0_indexOf_0f7a4_3 : decode cJ0_indexOf_0f7a4 3 = .ok (.invokevirtual 633, 3) := by decide +kernel
theorem dJ0_indexOf_0f7a4_6 : decode cJ0_indexOf_0f7a4 6 = .ok (.ireturn, 1) := by decide +kernel
def Js_indexOf (N : Nat) (w : Nat) (a1 : Int) (M : jMem) : Option Int := (Js_indexOf2 N w a1 0 M).bind fun r1 => some r1
theorem c_Js_indexOf {l : Launch} {g : jG} (N : Nat) (w : Nat) (a1 : Int) (M : jMem) (hw : w < 2) : ∀ o, Js_indexOf N w a1 M = some o → jCt l g jTX yJ0_indexOf_0f7a4 cJ0_indexOf_0f7a4 2 (some .int) 0 7 [(4, (jSa g w)), (0, a1)] M (o, M) := by
  refine jMet (own := RJ0) (em := (fun r => (r, M))) (L := [(0, 4, (jSa g w)), (1, 0, a1)]) (by decide +kernel) rfl (Nat.le_of_ble_eq_true rfl) rfl (fun K hR => ?_)
  unfold Js_indexOf
  refine z_aload4_n (pc := 0) hR 0 dJ0_indexOf_0f7a4_0 rfl rfl ?_
  refine z_iload_n (pc := 1) hR 1 dJ0_indexOf_0f7a4_1 rfl rfl ?_
  refine z_iconst (pc := 2) hR dJ0_indexOf_0f7a4_2 rfl ?_
  refine z_callv4p (pc := 3) hR (As := [(0, a1), (0, 0)]) (st := []) jm_J0_indexOf_7cf53 jl_RJ0_633 hw (by decide) (c_Js_indexOf2 N w a1 0 M hw) rfl (by decide) (by decide) rfl (Nat.le_of_ble_eq_true rfl) dJ0_indexOf_0f7a4_3 (fun r1 => ?_)
  exact z_ireturn (pc := 6) hR rfl rfl dJ0_indexOf_0f7a4_6 rfl
theorem dX8_cutSign_0 : decode cX8_cutSign 0 = .ok (.aload_n 0, 1) := by decide +kernel
theorem dX8_cutSign_1 : decode cX8_cutSign 1 = .ok (.getfield 15, 3) := by decide +kernel
theorem dX8_cutSign_4 : decode cX8_cutSign 4 = .ok (.iload_n 3, 1) := by decide +kernel
theorem dX8_cutSign_5 : decode cX8_cutSign 5 = .ok (.iaload, 1) := by decide +kernel
theorem dX8_cutSign_6 : decode cX8_cutSign 6 = .ok (.istore 4, 2) := by decide +kernel
theorem dX8_cutSign_8 : decode cX8_cutSign 8 = .ok (.ldc 64, 2) := by decide +kernel
theorem dX8_cutSign_10 : decode cX8_cutSign 10 = .ok (.aload_n 1, 1) := by decide +kernel
theorem dX8_cutSign_11 : decode cX8_cutSign 11 = .ok (.iload 4, 2) := by decide +kernel
theorem dX8_cutSign_13 : decode cX8_cutSign 13 = .ok (.baload, 1) := by decide +kernel
theorem dX8_cutSign_14 : decode cX8_cutSign 14 = .ok (.sipush 255, 3) := by decide +kernel
theorem dX8_cutSign_17 : decode cX8_cutSign 17 = .ok (.iand, 1) := by decide +kernel
theorem dX8_cutSign_18 : decode cX8_cutSign 18 = .ok (.i2c, 1) := by decide +kernel
theorem dX8_cutSign_19 : decode cX8_cutSign 19 = .ok (.invokevirtual 66, 3) := by decide +kernel
theorem dX8_cutSign_22 : decode cX8_cutSign 22 = .ok (.istore 5, 2) := by decide +kernel
theorem dX8_cutSign_24 : decode cX8_cutSign 24 = .ok (.aload_n 0, 1) := by decide +kernel
theorem dX8_cutSign_25 : decode cX8_cutSign 25 = .ok (.getfield 9, 3) := by decide +kernel
theorem dX8_cutSign_28 : decode cX8_cutSign 28 = .ok (.iload_n 3, 1) := by decide +kernel
theorem dX8_cutSign_29 : decode cX8_cutSign 29 = .ok (.iload 5, 2) := by decide +kernel
theorem dX8_cutSign_31 : decode cX8_cutSign 31 = .ok (.ifCond .ge 7, 3) := by decide +kernel
theorem dX8_cutSign_34 : decode cX8_cutSign 34 = .ok (.iconst 3, 1) := by decide +kernel
theorem dX8_cutSign_35 : decode cX8_cutSign 35 = .ok (.goto 7, 3) := by decide +kernel
theorem dX8_cutSign_38 : decode cX8_cutSign 38 = .ok (.iconst 4, 1) := by decide +kernel
theorem dX8_cutSign_39 : decode cX8_cutSign 39 = .ok (.iload 5, 2) := by decide +kernel
theorem dX8_cutSign_41 : decode cX8_cutSign 41 = .ok (.iadd, 1) := by decide +kernel
theorem dX8_cutSign_42 : decode cX8_cutSign 42 = .ok (.iastore, 1) := by decide +kernel
theorem dX8_cutSign_43 : decode cX8_cutSign 43 = .ok (.iload 4, 2) := by decide +kernel
theorem dX8_cutSign_45 : decode cX8_cutSign 45 = .ok (.iconst 1, 1) := by decide +kernel
theorem dX8_cutSign_46 : decode cX8_cutSign 46 = .ok (.iadd, 1) := by decide +kernel
theorem dX8_cutSign_47 : decode cX8_cutSign 47 = .ok (.iload_n 2, 1) := by decide +kernel
theorem dX8_cutSign_48 : decode cX8_cutSign 48 = .ok (.if_icmp .ge 18, 3) := by decide +kernel
theorem dX8_cutSign_51 : decode cX8_cutSign 51 = .ok (.aload_n 1, 1) := by decide +kernel
theorem dX8_cutSign_52 : decode cX8_cutSign 52 = .ok (.iload 4, 2) := by decide +kernel
theorem dX8_cutSign_54 : decode cX8_cutSign 54 = .ok (.iconst 1, 1) := by decide +kernel
theorem dX8_cutSign_55 : decode cX8_cutSign 55 = .ok (.iadd, 1) := by decide +kernel
theorem dX8_cutSign_56 : decode cX8_cutSign 56 = .ok (.baload, 1) := by decide +kernel
theorem dX8_cutSign_57 : decode cX8_cutSign 57 = .ok (.bipush 61, 2) := by decide +kernel
theorem dX8_cutSign_59 : decode cX8_cutSign 59 = .ok (.if_icmp .ne 7, 3) := by decide +kernel
theorem dX8_cutSign_62 : decode cX8_cutSign 62 = .ok (.iconst 1, 1) := by decide +kernel
theorem dX8_cutSign_63 : decode cX8_cutSign 63 = .ok (.goto 4, 3) := by decide +kernel
theorem dX8_cutSign_66 : decode cX8_cutSign 66 = .ok (.iconst 0, 1) := by decide +kernel
theorem dX8_cutSign_67 : decode cX8_cutSign 67 = .ok (.istore 6, 2) := by decide +kernel
theorem dX8_cutSign_69 : decode cX8_cutSign 69 = .ok (.iload 6, 2) := by decide +kernel
theorem dX8_cutSign_71 : decode cX8_cutSign 71 = .ok (.ifCond .eq 27, 3) := by decide +kernel
theorem dX8_cutSign_74 : decode cX8_cutSign 74 = .ok (.aload_n 0, 1) := by decide +kernel
theorem dX8_cutSign_75 : decode cX8_cutSign 75 = .ok (.getfield 9, 3) := by decide +kernel
theorem dX8_cutSign_78 : decode cX8_cutSign 78 = .ok (.iload_n 3, 1) := by decide +kernel
theorem dX8_cutSign_79 : decode cX8_cutSign 79 = .ok (.iaload, 1) := by decide +kernel
theorem dX8_cutSign_80 : decode cX8_cutSign 80 = .ok (.bipush 12, 2) := by decide +kernel
theorem dX8_cutSign_82 : decode cX8_cutSign 82 = .ok (.if_icmp .ne 16, 3) := by decide +kernel
theorem dX8_cutSign_85 : decode cX8_cutSign 85 = .ok (.aload_n 0, 1) := by decide +kernel
theorem dX8_cutSign_86 : decode cX8_cutSign 86 = .ok (.getfield 9, 3) := by decide +kernel
theorem dX8_cutSign_89 : decode cX8_cutSign 89 = .ok (.iload_n 3, 1) := by decide +kernel
theorem dX8_cutSign_90 : decode cX8_cutSign 90 = .ok (.bipush 15, 2) := by decide +kernel
theorem dX8_cutSign_92 : decode cX8_cutSign 92 = .ok (.iastore, 1) := by decide +kernel
theorem dX8_cutSign_93 : decode cX8_cutSign 93 = .ok (.iload 4, 2) := by decide +kernel
theorem dX8_cutSign_95 : decode cX8_cutSign 95 = .ok (.iconst 2, 1) := by decide +kernel
theorem dX8_cutSign_96 : decode cX8_cutSign 96 = .ok (.iadd, 1) := by decide +kernel
theorem dX8_cutSign_97 : decode cX8_cutSign 97 = .ok (.ireturn, 1) := by decide +kernel
theorem dX8_cutSign_98 : decode cX8_cutSign 98 = .ok (.iload 6, 2) := by decide +kernel
theorem dX8_cutSign_100 : decode cX8_cutSign 100 = .ok (.ifCond .eq 27, 3) := by decide +kernel
theorem dX8_cutSign_103 : decode cX8_cutSign 103 = .ok (.aload_n 0, 1) := by decide +kernel
theorem dX8_cutSign_104 : decode cX8_cutSign 104 = .ok (.getfield 9, 3) := by decide +kernel
theorem dX8_cutSign_107 : decode cX8_cutSign 107 = .ok (.iload_n 3, 1) := by decide +kernel
theorem dX8_cutSign_108 : decode cX8_cutSign 108 = .ok (.iaload, 1) := by decide +kernel
theorem dX8_cutSign_109 : decode cX8_cutSign 109 = .ok (.bipush 14, 2) := by decide +kernel
theorem dX8_cutSign_111 : decode cX8_cutSign 111 = .ok (.if_icmp .ne 16, 3) := by decide +kernel
theorem dX8_cutSign_114 : decode cX8_cutSign 114 = .ok (.aload_n 0, 1) := by decide +kernel
theorem dX8_cutSign_115 : decode cX8_cutSign 115 = .ok (.getfield 9, 3) := by decide +kernel
theorem dX8_cutSign_118 : decode cX8_cutSign 118 = .ok (.iload_n 3, 1) := by decide +kernel
theorem dX8_cutSign_119 : decode cX8_cutSign 119 = .ok (.bipush 16, 2) := by decide +kernel
theorem dX8_cutSign_121 : decode cX8_cutSign 121 = .ok (.iastore, 1) := by decide +kernel
theorem dX8_cutSign_122 : decode cX8_cutSign 122 = .ok (.iload 4, 2) := by decide +kernel
theorem dX8_cutSign_124 : decode cX8_cutSign 124 = .ok (.iconst 2, 1) := by decide +kernel
theorem dX8_cutSign_125 : decode cX8_cutSign 125 = .ok (.iadd, 1) := by decide +kernel
theorem dX8_cutSign_126 : decode cX8_cutSign 126 = .ok (.ireturn, 1) := by decide +kernel
theorem dX8_cutSign_127 : decode cX8_cutSign 127 = .ok (.iload 4, 2) := by decide +kernel
theorem dX8_cutSign_129 : decode cX8_cutSign 129 = .ok (.iconst 1, 1) := by decide +kernel
theorem dX8_cutSign_130 : decode cX8_cutSign 130 = .ok (.iadd, 1) := by decide +kernel
theorem dX8_cutSign_131 : decode cX8_cutSign 131 = .ok (.ireturn, 1) := by decide +kernel
def To_cutSign (N : Nat) (a2 a3 : Int) (M : jMem) : Option (Int × jMem) := jchk (0 ≤ a3 ∧ a3 < 401) <| jlt ((M 4 a3)) fun v2 => jchk (0 ≤ v2 ∧ v2 < 400) <| (Js_indexOf N 1 ((jchr ((jand ((M 1 v2)) 255)))) M).bind fun r4 => jlt (fun (u5 : Int) => jchk (0 ≤ a3 ∧ a3 < 401) <| jlt (up M 3 a3 u5) fun M7 => jlt (fun (u8 : Int) => jlt (fun (_ : Unit) => (if u8 = 0 then some ((w32 (v2 + 1)), M7) else jchk (0 ≤ a3 ∧ a3 < 401) <| (if (M7 3 a3) = 14 then jchk (0 ≤ a3 ∧ a3 < 401) <| jlt (up M7 3 a3 16) fun M11 => some ((w32 (v2 + 2)), M11) else some ((w32 (v2 + 1)), M7)))) fun j98 => (if u8 = 0 then j98 () else jchk (0 ≤ a3 ∧ a3 < 401) <| (if (M7 3 a3) = 12 then jchk (0 ≤ a3 ∧ a3 < 401) <| jlt (up M7 3 a3 15) fun M14 => some ((w32 (v2 + 2)), M14) else j98 ()))) fun j67 => (if (w32 (v2 + 1)) < a2 then jchk (0 ≤ (w32 (v2 + 1)) ∧ (w32 (v2 + 1)) < 400) <| (if (M7 1 ((w32 (v2 + 1)))) = 61 then j67 1 else j67 0) else j67 0)) fun j42 => (if r4 < 0 then j42 3 else j42 ((w32 (4 + r4))))
theorem c_To_cutSign {l : Launch} {g : jG} (N : Nat) (a2 a3 : Int) (M : jMem)  : ∀ o, To_cutSign N a2 a3 M = some o → jCt l g jTX yX8_cutSign cX8_cutSign 7 (some .int) 0 9 [(2, 2), (2, 1), (0, a2), (0, a3)] M o := by
  refine jMet (own := RX8) (em := id) (L := [(0, 2, 2), (1, 2, 1), (2, 0, a2), (3, 0, a3)]) (by decide +kernel) rfl (Nat.le_of_ble_eq_true rfl) rfl (fun K hR => ?_)
  unfold To_cutSign
  refine z_aload_n (pc := 0) hR 0 dX8_cutSign_0 rfl rfl ?_
  refine z_getr (pc := 1) hR (c0 := 2) (r := 4) jf_RX8_15 kxo_2 (by decide) rfl rfl dX8_cutSign_1 ?_
  refine z_iload_n (pc := 4) hR 3 dX8_cutSign_4 rfl rfl ?_
  refine z_chk (fun hc1 => ?_)
  refine z_iald (pc := 5) hR (n := 401) kxa_4 hc1.1 hc1.2 dX8_cutSign_5 ?_
  refine z_let1 (fun v2 => ?_)
  refine z_istore (pc := 6) hR (lv' := [(4, 0, v2), (0, 2, 2), (1, 2, 1), (2, 0, a2), (3, 0, a3)]) dX8_cutSign_6 (by decide) rfl ?_
  refine z_ldcS (pc := 8) hR (w := 1) (fun U h => h.2.2.1) dX8_cutSign_8 ?_
  refine z_aload_n (pc := 10) hR 2 dX8_cutSign_10 rfl rfl ?_
  refine z_iload (pc := 11) hR 0 dX8_cutSign_11 rfl ?_
  refine z_chk (fun hc3 => ?_)
  refine z_bald (pc := 13) hR (n := 400) kxa_1 hc3.1 hc3.2 dX8_cutSign_13 ?_
  refine z_sipush (pc := 14) hR dX8_cutSign_14 rfl ?_
  refine z_iand (pc := 17) hR dX8_cutSign_17 ?_
  refine z_i2c (pc := 18) hR dX8_cutSign_18 ?_
  refine z_callv4p (pc := 19) hR (As := [(0, (jchr ((jand ((M 1 v2)) 255))))]) (st := []) jm_J0_indexOf_0f7a4 jl_RX8_66 (by decide) (by decide) (c_Js_indexOf N 1 ((jchr ((jand ((M 1 v2)) 255)))) M (by decide)) rfl (by decide) (by decide) rfl (Nat.le_of_ble_eq_true rfl) dX8_cutSign_19 (fun r4 => ?_)
  refine z_istore (pc := 22) hR (lv' := [(5, 0, r4), (4, 0, v2), (0, 2, 2), (1, 2, 1), (2, 0, a2), (3, 0, a3)]) dX8_cutSign_22 (by decide) rfl ?_
  refine z_aload_n (pc := 24) hR 2 dX8_cutSign_24 rfl rfl ?_
  refine z_getr (pc := 25) hR (c0 := 1) (r := 3) jf_RX8_9 kxo_2 (by decide) rfl rfl dX8_cutSign_25 ?_
  refine z_iload_n (pc := 28) hR 5 dX8_cutSign_28 rfl rfl ?_
  refine z_iload (pc := 29) hR 0 dX8_cutSign_29 rfl ?_
  refine z_join (P := fun j => ∀ (u5 : Int), jZ K id 42 [(0, 2, 2), (1, 2, 1), (2, 0, a2), (3, 0, a3), (4, 0, v2)] [(0, u5), (0, a3), (2, 3)] M (j u5)) (fun u5 => ?_) (fun j42 hj42 => ?_)
  · refine z_chk (fun hc6 => ?_)
    refine z_iast (pc := 42) hR (n := 401) kxa_3 hc6.1 hc6.2 dX8_cutSign_42 (fun M7 => ?_)
    refine z_iload (pc := 43) hR 4 dX8_cutSign_43 rfl ?_
    refine z_iconst (pc := 45) hR dX8_cutSign_45 rfl ?_
    refine z_iadd (pc := 46) hR dX8_cutSign_46 ?_
    refine z_iload_n (pc := 47) hR 2 dX8_cutSign_47 rfl rfl ?_
    refine z_join (P := fun j => ∀ (u8 : Int), jZ K id 67 [(0, 2, 2), (3, 0, a3), (4, 0, v2)] [(0, u8)] M7 (j u8)) (fun u8 => ?_) (fun j67 hj67 => ?_)
    · refine z_istore (pc := 67) hR (lv' := [(6, 0, u8), (0, 2, 2), (3, 0, a3), (4, 0, v2)]) dX8_cutSign_67 (by decide) rfl ?_
      refine z_iload (pc := 69) hR 0 dX8_cutSign_69 rfl ?_
      refine z_join (P := fun j => ∀ (_ : Unit), jZ K id 98 [(0, 2, 2), (3, 0, a3), (4, 0, v2), (6, 0, u8)] [] M7 (j ())) (fun _ => ?_) (fun j98 hj98 => ?_)
      · refine z_iload (pc := 98) hR 3 dX8_cutSign_98 rfl ?_
        refine z_ifeq (pc := 100) (tgt := 127) hR dX8_cutSign_100 (by decide) ?_ ?_
        · refine z_iload (pc := 127) hR 2 dX8_cutSign_127 rfl ?_
          refine z_iconst (pc := 129) hR dX8_cutSign_129 rfl ?_
          refine z_iadd (pc := 130) hR dX8_cutSign_130 ?_
          exact z_ireturn (pc := 131) hR rfl rfl dX8_cutSign_131 rfl
        · refine z_aload_n (pc := 103) hR 0 dX8_cutSign_103 rfl rfl ?_
          refine z_getr (pc := 104) hR (c0 := 1) (r := 3) jf_RX8_9 kxo_2 (by decide) rfl rfl dX8_cutSign_104 ?_
          refine z_iload_n (pc := 107) hR 1 dX8_cutSign_107 rfl rfl ?_
          refine z_chk (fun hc9 => ?_)
          refine z_iald (pc := 108) hR (n := 401) kxa_3 hc9.1 hc9.2 dX8_cutSign_108 ?_
          refine z_bipush (pc := 109) hR dX8_cutSign_109 rfl ?_
          refine z_icmpne (pc := 111) (tgt := 127) hR dX8_cutSign_111 (by decide) ?_ ?_
          · refine z_iload (pc := 127) hR 2 dX8_cutSign_127 rfl ?_
            refine z_iconst (pc := 129) hR dX8_cutSign_129 rfl ?_
            refine z_iadd (pc := 130) hR dX8_cutSign_130 ?_
            exact z_ireturn (pc := 131) hR rfl rfl dX8_cutSign_131 rfl
          · refine z_aload_n (pc := 114) hR 0 dX8_cutSign_114 rfl rfl ?_
            refine z_getr (pc := 115) hR (c0 := 1) (r := 3) jf_RX8_9 kxo_2 (by decide) rfl rfl dX8_cutSign_115 ?_
            refine z_iload_n (pc := 118) hR 1 dX8_cutSign_118 rfl rfl ?_
            refine z_bipush (pc := 119) hR dX8_cutSign_119 rfl ?_
            refine z_chk (fun hc10 => ?_)
            refine z_iast (pc := 121) hR (n := 401) kxa_3 hc10.1 hc10.2 dX8_cutSign_121 (fun M11 => ?_)
            refine z_iload (pc := 122) hR 2 dX8_cutSign_122 rfl ?_
            refine z_iconst (pc := 124) hR dX8_cutSign_124 rfl ?_
            refine z_iadd (pc := 125) hR dX8_cutSign_125 ?_
            exact z_ireturn (pc := 126) hR rfl rfl dX8_cutSign_126 rfl
      refine z_ifeq (pc := 71) (tgt := 98) hR dX8_cutSign_71 (by decide) ?_ ?_
      · refine z_pick (pc := 98) (lv' := [(0, 2, 2), (3, 0, a3), (4, 0, v2), (6, 0, u8)]) hR [1, 2, 3, 0] rfl ?_
        exact hj98 ()
      · refine z_aload_n (pc := 74) hR 1 dX8_cutSign_74 rfl rfl ?_
        refine z_getr (pc := 75) hR (c0 := 1) (r := 3) jf_RX8_9 kxo_2 (by decide) rfl rfl dX8_cutSign_75 ?_
        refine z_iload_n (pc := 78) hR 2 dX8_cutSign_78 rfl rfl ?_
        refine z_chk (fun hc12 => ?_)
        refine z_iald (pc := 79) hR (n := 401) kxa_3 hc12.1 hc12.2 dX8_cutSign_79 ?_
        refine z_bipush (pc := 80) hR dX8_cutSign_80 rfl ?_
        refine z_icmpne (pc := 82) (tgt := 98) hR dX8_cutSign_82 (by decide) ?_ ?_
        · refine z_pick (pc := 98) (lv' := [(0, 2, 2), (3, 0, a3), (4, 0, v2), (6, 0, u8)]) hR [1, 2, 3, 0] rfl ?_
          exact hj98 ()
        · refine z_aload_n (pc := 85) hR 1 dX8_cutSign_85 rfl rfl ?_
          refine z_getr (pc := 86) hR (c0 := 1) (r := 3) jf_RX8_9 kxo_2 (by decide) rfl rfl dX8_cutSign_86 ?_
          refine z_iload_n (pc := 89) hR 2 dX8_cutSign_89 rfl rfl ?_
          refine z_bipush (pc := 90) hR dX8_cutSign_90 rfl ?_
          refine z_chk (fun hc13 => ?_)
          refine z_iast (pc := 92) hR (n := 401) kxa_3 hc13.1 hc13.2 dX8_cutSign_92 (fun M14 => ?_)
          refine z_iload (pc := 93) hR 3 dX8_cutSign_93 rfl ?_
          refine z_iconst (pc := 95) hR dX8_cutSign_95 rfl ?_
          refine z_iadd (pc := 96) hR dX8_cutSign_96 ?_
          exact z_ireturn (pc := 97) hR rfl rfl dX8_cutSign_97 rfl
    refine z_icmpge (pc := 48) (tgt := 66) hR dX8_cutSign_48 (by decide) ?_ ?_
    · refine z_iconst (pc := 66) hR dX8_cutSign_66 rfl ?_
      refine z_pick (pc := 67) (lv' := [(0, 2, 2), (3, 0, a3), (4, 0, v2)]) hR [0, 3, 4] rfl ?_
      exact hj67 0
    · refine z_aload_n (pc := 51) hR 1 dX8_cutSign_51 rfl rfl ?_
      refine z_iload (pc := 52) hR 4 dX8_cutSign_52 rfl ?_
      refine z_iconst (pc := 54) hR dX8_cutSign_54 rfl ?_
      refine z_iadd (pc := 55) hR dX8_cutSign_55 ?_
      refine z_chk (fun hc15 => ?_)
      refine z_bald (pc := 56) hR (n := 400) kxa_1 hc15.1 hc15.2 dX8_cutSign_56 ?_
      refine z_bipush (pc := 57) hR dX8_cutSign_57 rfl ?_
      refine z_icmpne (pc := 59) (tgt := 66) hR dX8_cutSign_59 (by decide) ?_ ?_
      · refine z_iconst (pc := 66) hR dX8_cutSign_66 rfl ?_
        refine z_pick (pc := 67) (lv' := [(0, 2, 2), (3, 0, a3), (4, 0, v2)]) hR [0, 3, 4] rfl ?_
        exact hj67 0
      · refine z_iconst (pc := 62) hR dX8_cutSign_62 rfl ?_
        refine z_goto (pc := 63) (tgt := 67) hR dX8_cutSign_63 (by decide) ?_
        refine z_pick (pc := 67) (lv' := [(0, 2, 2), (3, 0, a3), (4, 0, v2)]) hR [0, 3, 4] rfl ?_
        exact hj67 1
  refine z_ifge (pc := 31) (tgt := 38) hR dX8_cutSign_31 (by decide) ?_ ?_
  · refine z_iconst (pc := 38) hR dX8_cutSign_38 rfl ?_
    refine z_iload (pc := 39) hR 0 dX8_cutSign_39 rfl ?_
    refine z_iadd (pc := 41) hR dX8_cutSign_41 ?_
    refine z_pick (pc := 42) (lv' := [(0, 2, 2), (1, 2, 1), (2, 0, a2), (3, 0, a3), (4, 0, v2)]) hR [2, 3, 4, 5, 1] rfl ?_
    exact hj42 ((w32 (4 + r4)))
  · refine z_iconst (pc := 34) hR dX8_cutSign_34 rfl ?_
    refine z_goto (pc := 35) (tgt := 42) hR dX8_cutSign_35 (by decide) ?_
    refine z_pick (pc := 42) (lv' := [(0, 2, 2), (1, 2, 1), (2, 0, a2), (3, 0, a3), (4, 0, v2)]) hR [2, 3, 4, 5, 1] rfl ?_
    exact hj42 3
theorem dX8_cut_0 : decode cX8_cut 0 = .ok (.iconst 0, 1) := by decide +kernel
theorem dX8_cut_1 : decode cX8_cut 1 = .ok (.istore_n 3, 1) := by decide +kernel
theorem dX8_cut_2 : decode cX8_cut 2 = .ok (.iconst 0, 1) := by decide +kernel
theorem dX8_cut_3 : decode cX8_cut 3 = .ok (.istore 4, 2) := by decide +kernel
theorem dX8_cut_5 : decode cX8_cut 5 = .ok (.iconst 0, 1) := by decide +kernel
theorem dX8_cut_6 : decode cX8_cut 6 = .ok (.istore 5, 2) := by decide +kernel
theorem dX8_cut_8 : decode cX8_cut 8 = .ok (.iload 5, 2) := by decide +kernel
theorem dX8_cut_10 : decode cX8_cut 10 = .ok (.iload_n 2, 1) := by decide +kernel
theorem dX8_cut_11 : decode cX8_cut 11 = .ok (.if_icmp .ge 103, 3) := by decide +kernel
theorem dX8_cut_14 : decode cX8_cut 14 = .ok (.iload_n 3, 1) := by decide +kernel
theorem dX8_cut_15 : decode cX8_cut 15 = .ok (.sipush 400, 3) := by decide +kernel
theorem dX8_cut_18 : decode cX8_cut 18 = .ok (.if_icmp .ge 96, 3) := by decide +kernel
theorem dX8_cut_21 : decode cX8_cut 21 = .ok (.aload_n 1, 1) := by decide +kernel
theorem dX8_cut_22 : decode cX8_cut 22 = .ok (.iload 5, 2) := by decide +kernel
theorem dX8_cut_24 : decode cX8_cut 24 = .ok (.baload, 1) := by decide +kernel
theorem dX8_cut_25 : decode cX8_cut 25 = .ok (.sipush 255, 3) := by decide +kernel
theorem dX8_cut_28 : decode cX8_cut 28 = .ok (.iand, 1) := by decide +kernel
theorem dX8_cut_29 : decode cX8_cut 29 = .ok (.istore 6, 2) := by decide +kernel
theorem dX8_cut_31 : decode cX8_cut 31 = .ok (.iload 5, 2) := by decide +kernel
theorem dX8_cut_33 : decode cX8_cut 33 = .ok (.iload 4, 2) := by decide +kernel
theorem dX8_cut_35 : decode cX8_cut 35 = .ok (.if_icmp .lt 73, 3) := by decide +kernel
theorem dX8_cut_38 : decode cX8_cut 38 = .ok (.iload 6, 2) := by decide +kernel
theorem dX8_cut_40 : decode cX8_cut 40 = .ok (.bipush 32, 2) := by decide +kernel
theorem dX8_cut_42 : decode cX8_cut 42 = .ok (.if_icmp .ne 6, 3) := by decide +kernel
theorem dX8_cut_45 : decode cX8_cut 45 = .ok (.goto 63, 3) := by decide +kernel
theorem dX8_cut_48 : decode cX8_cut 48 = .ok (.aload_n 0, 1) := by decide +kernel
theorem dX8_cut_49 : decode cX8_cut 49 = .ok (.getfield 15, 3) := by decide +kernel
theorem dX8_cut_52 : decode cX8_cut 52 = .ok (.iload_n 3, 1) := by decide +kernel
theorem dX8_cut_53 : decode cX8_cut 53 = .ok (.iload 5, 2) := by decide +kernel
theorem dX8_cut_55 : decode cX8_cut 55 = .ok (.iastore, 1) := by decide +kernel
theorem dX8_cut_56 : decode cX8_cut 56 = .ok (.iload 6, 2) := by decide +kernel
theorem dX8_cut_58 : decode cX8_cut 58 = .ok (.invokestatic 21, 3) := by decide +kernel
theorem dX8_cut_61 : decode cX8_cut 61 = .ok (.ifCond .eq 15, 3) := by decide +kernel
theorem dX8_cut_64 : decode cX8_cut 64 = .ok (.aload_n 0, 1) := by decide +kernel
theorem dX8_cut_65 : decode cX8_cut 65 = .ok (.aload_n 1, 1) := by decide +kernel
theorem dX8_cut_66 : decode cX8_cut 66 = .ok (.iload_n 2, 1) := by decide +kernel
theorem dX8_cut_67 : decode cX8_cut 67 = .ok (.iload_n 3, 1) := by decide +kernel
theorem dX8_cut_68 : decode cX8_cut 68 = .ok (.invokevirtual 25, 3) := by decide +kernel
theorem dX8_cut_71 : decode cX8_cut 71 = .ok (.istore 4, 2) := by decide +kernel
theorem dX8_cut_73 : decode cX8_cut 73 = .ok (.goto 32, 3) := by decide +kernel
theorem dX8_cut_76 : decode cX8_cut 76 = .ok (.iload 6, 2) := by decide +kernel
theorem dX8_cut_78 : decode cX8_cut 78 = .ok (.invokestatic 29, 3) := by decide +kernel
theorem dX8_cut_81 : decode cX8_cut 81 = .ok (.ifCond .eq 15, 3) := by decide +kernel
theorem dX8_cut_84 : decode cX8_cut 84 = .ok (.aload_n 0, 1) := by decide +kernel
theorem dX8_cut_85 : decode cX8_cut 85 = .ok (.aload_n 1, 1) := by decide +kernel
theorem dX8_cut_86 : decode cX8_cut 86 = .ok (.iload_n 2, 1) := by decide +kernel
theorem dX8_cut_87 : decode cX8_cut 87 = .ok (.iload_n 3, 1) := by decide +kernel
theorem dX8_cut_88 : decode cX8_cut 88 = .ok (.invokevirtual 32, 3) := by decide +kernel
theorem dX8_cut_91 : decode cX8_cut 91 = .ok (.istore 4, 2) := by decide +kernel
theorem dX8_cut_93 : decode cX8_cut 93 = .ok (.goto 12, 3) := by decide +kernel
theorem dX8_cut_96 : decode cX8_cut 96 = .ok (.aload_n 0, 1) := by decide +kernel
theorem dX8_cut_97 : decode cX8_cut 97 = .ok (.aload_n 1, 1) := by decide +kernel
theorem dX8_cut_98 : decode cX8_cut 98 = .ok (.iload_n 2, 1) := by decide +kernel
theorem dX8_cut_99 : decode cX8_cut 99 = .ok (.iload_n 3, 1) := by decide +kernel
theorem dX8_cut_100 : decode cX8_cut 100 = .ok (.invokevirtual 35, 3) := by decide +kernel
theorem dX8_cut_103 : decode cX8_cut 103 = .ok (.istore 4, 2) := by decide +kernel
theorem dX8_cut_105 : decode cX8_cut 105 = .ok (.iinc 3 1, 3) := by decide +kernel
theorem dX8_cut_108 : decode cX8_cut 108 = .ok (.iinc 5 1, 3) := by decide +kernel
theorem dX8_cut_111 : decode cX8_cut 111 = .ok (.goto (-103), 3) := by decide +kernel
theorem dX8_cut_114 : decode cX8_cut 114 = .ok (.aload_n 0, 1) := by decide +kernel
theorem dX8_cut_115 : decode cX8_cut 115 = .ok (.getfield 15, 3) := by decide +kernel
theorem dX8_cut_118 : decode cX8_cut 118 = .ok (.iload_n 3, 1) := by decide +kernel
theorem dX8_cut_119 : decode cX8_cut 119 = .ok (.iload_n 2, 1) := by decide +kernel
theorem dX8_cut_120 : decode cX8_cut 120 = .ok (.iastore, 1) := by decide +kernel
theorem dX8_cut_121 : decode cX8_cut 121 = .ok (.aload_n 0, 1) := by decide +kernel
theorem dX8_cut_122 : decode cX8_cut 122 = .ok (.getfield 9, 3) := by decide +kernel
theorem dX8_cut_125 : decode cX8_cut 125 = .ok (.iload_n 3, 1) := by decide +kernel
theorem dX8_cut_126 : decode cX8_cut 126 = .ok (.iconst 0, 1) := by decide +kernel
theorem dX8_cut_127 : decode cX8_cut 127 = .ok (.iastore, 1) := by decide +kernel
theorem dX8_cut_128 : decode cX8_cut 128 = .ok (.aload_n 0, 1) := by decide +kernel
theorem dX8_cut_129 : decode cX8_cut 129 = .ok (.iconst 0, 1) := by decide +kernel
theorem dX8_cut_130 : decode cX8_cut 130 = .ok (.putfield 38, 3) := by decide +kernel
theorem dX8_cut_133 : decode cX8_cut 133 = .ok (.aload_n 0, 1) := by decide +kernel
theorem dX8_cut_134 : decode cX8_cut 134 = .ok (.iconst 0, 1) := by decide +kernel
theorem dX8_cut_135 : decode cX8_cut 135 = .ok (.putfield 42, 3) := by decide +kernel
theorem dX8_cut_138 : decode cX8_cut 138 = .ok (.return_, 1) := by decide +kernel
def To_cut_L8 (N : Nat) (a2 : Int) (h8 : (Int × Int × Int × jMem) → Option (Int × jMem)) : Int × Int × Int × jMem → Option (Int × jMem)
  | (x1, x2, x3, M4) => jlt (fun (_ : Unit) => jchk (0 ≤ x1 ∧ x1 < 401) <| jlt (up M4 4 x1 a2) fun M6 => jchk (0 ≤ x1 ∧ x1 < 401) <| jlt (up M6 3 x1 0) fun M8 => jlt (up M8 2 3 0) fun M9 => jlt (up M9 2 4 0) fun M10 => some (0, M10)) fun j114 => (if x3 < a2 then (if x1 < 400 then jchk (0 ≤ x3 ∧ x3 < 400) <| jlt ((jand ((M4 1 x3)) 255)) fun v12 => (if x3 < x2 then h8 (x1, x2, (w32 (x3 + 1)), M4) else (if v12 = 32 then h8 (x1, x2, (w32 (x3 + 1)), M4) else jchk (0 ≤ x1 ∧ x1 < 401) <| jlt (up M4 4 x1 x3) fun M14 => (To_isDigit N v12 M14).bind fun r15 => (if r15 = 0 then (To_isSmallLetter N v12 M14).bind fun r16 => (if r16 = 0 then jb1 (To_cutSign N a2 x1 M14) fun r17 M18 => h8 ((w32 (x1 + 1)), r17, (w32 (x3 + 1)), M18) else jb1 (To_cutWord N a2 x1 M14) fun r19 M20 => h8 ((w32 (x1 + 1)), r19, (w32 (x3 + 1)), M20)) else jb1 (To_cutNumber N a2 x1 M14) fun r21 M22 => h8 ((w32 (x1 + 1)), r21, (w32 (x3 + 1)), M22)))) else j114 ()) else j114 ())
def To_cut (N : Nat) (a2 : Int) (M : jMem) : Option (Int × jMem) := jfix N (To_cut_L8 N a2) (0, 0, 0, M)
theorem c_To_cut {l : Launch} {g : jG} (N : Nat) (a2 : Int) (M : jMem)  : ∀ o, To_cut N a2 M = some o → jCt l g jTX yX8_cut cX8_cut 7 none 3 16 [(2, 2), (2, 1), (0, a2)] M o := by
  refine jMet (own := RX8) (em := id) (L := [(0, 2, 2), (1, 2, 1), (2, 0, a2)]) (by decide +kernel) rfl (Nat.le_of_ble_eq_true rfl) rfl (fun K hR => ?_)
  unfold To_cut
  refine z_iconst (pc := 0) hR dX8_cut_0 rfl ?_
  refine z_istore_n (pc := 1) hR (lv' := [(3, 0, 0), (0, 2, 2), (1, 2, 1), (2, 0, a2)]) dX8_cut_1 rfl (by decide) rfl ?_
  refine z_iconst (pc := 2) hR dX8_cut_2 rfl ?_
  refine z_istore (pc := 3) hR (lv' := [(4, 0, 0), (3, 0, 0), (0, 2, 2), (1, 2, 1), (2, 0, a2)]) dX8_cut_3 (by decide) rfl ?_
  refine z_iconst (pc := 5) hR dX8_cut_5 rfl ?_
  refine z_istore (pc := 6) hR (lv' := [(5, 0, 0), (4, 0, 0), (3, 0, 0), (0, 2, 2), (1, 2, 1), (2, 0, a2)]) dX8_cut_6 (by decide) rfl ?_
  refine z_pick (pc := 8) (lv' := [(0, 2, 2), (1, 2, 1), (2, 0, a2), (3, 0, 0), (4, 0, 0), (5, 0, 0)]) hR [3, 4, 5, 2, 1, 0] rfl ?_
  refine z_fix (σ := Int × Int × Int × jMem) (lv := fun s => [(0, 2, 2), (1, 2, 1), (2, 0, a2), (3, 0, s.1), (4, 0, s.2.1), (5, 0, s.2.2.1)]) (st := fun _ => []) (M := fun s => s.2.2.2) (fun h8 hh8 => ?_) N (0, 0, 0, M)
  rintro ⟨x1, x2, x3, M4⟩
  show jZ K id 8 [(0, 2, 2), (1, 2, 1), (2, 0, a2), (3, 0, x1), (4, 0, x2), (5, 0, x3)] [] M4 _
  unfold To_cut_L8
  refine z_iload (pc := 8) hR 5 dX8_cut_8 rfl ?_
  refine z_iload_n (pc := 10) hR 2 dX8_cut_10 rfl rfl ?_
  refine z_join (P := fun j => ∀ (_ : Unit), jZ K id 114 [(0, 2, 2), (2, 0, a2), (3, 0, x1)] [] M4 (j ())) (fun _ => ?_) (fun j114 hj114 => ?_)
  · refine z_aload_n (pc := 114) hR 0 dX8_cut_114 rfl rfl ?_
    refine z_getr (pc := 115) hR (c0 := 2) (r := 4) jf_RX8_15 kxo_2 (by decide) rfl rfl dX8_cut_115 ?_
    refine z_iload_n (pc := 118) hR 2 dX8_cut_118 rfl rfl ?_
    refine z_iload_n (pc := 119) hR 1 dX8_cut_119 rfl rfl ?_
    refine z_chk (fun hc5 => ?_)
    refine z_iast (pc := 120) hR (n := 401) kxa_4 hc5.1 hc5.2 dX8_cut_120 (fun M6 => ?_)
    refine z_aload_n (pc := 121) hR 0 dX8_cut_121 rfl rfl ?_
    refine z_getr (pc := 122) hR (c0 := 1) (r := 3) jf_RX8_9 kxo_2 (by decide) rfl rfl dX8_cut_122 ?_
    refine z_iload_n (pc := 125) hR 2 dX8_cut_125 rfl rfl ?_
    refine z_iconst (pc := 126) hR dX8_cut_126 rfl ?_
    refine z_chk (fun hc7 => ?_)
    refine z_iast (pc := 127) hR (n := 401) kxa_3 hc7.1 hc7.2 dX8_cut_127 (fun M8 => ?_)
    refine z_aload_n (pc := 128) hR 0 dX8_cut_128 rfl rfl ?_
    refine z_iconst (pc := 129) hR dX8_cut_129 rfl ?_
    refine z_puti (pc := 130) hR (j := 3) jp_RX8_38 kxo_2 (by decide) rfl rfl rfl rfl dX8_cut_130 (fun M9 => ?_)
    refine z_aload_n (pc := 133) hR 0 dX8_cut_133 rfl rfl ?_
    refine z_iconst (pc := 134) hR dX8_cut_134 rfl ?_
    refine z_puti (pc := 135) hR (j := 4) jp_RX8_42 kxo_2 (by decide) rfl rfl rfl rfl dX8_cut_135 (fun M10 => ?_)
    exact z_return (x := 0) (pc := 138) hR rfl rfl dX8_cut_138 rfl
  refine z_icmpge (pc := 11) (tgt := 114) hR dX8_cut_11 (by decide) ?_ ?_
  · refine z_pick (pc := 114) (lv' := [(0, 2, 2), (2, 0, a2), (3, 0, x1)]) hR [0, 2, 3] rfl ?_
    exact hj114 ()
  · refine z_iload_n (pc := 14) hR 3 dX8_cut_14 rfl rfl ?_
    refine z_sipush (pc := 15) hR dX8_cut_15 rfl ?_
    refine z_icmpge (pc := 18) (tgt := 114) hR dX8_cut_18 (by decide) ?_ ?_
    · refine z_pick (pc := 114) (lv' := [(0, 2, 2), (2, 0, a2), (3, 0, x1)]) hR [0, 2, 3] rfl ?_
      exact hj114 ()
    · refine z_aload_n (pc := 21) hR 1 dX8_cut_21 rfl rfl ?_
      refine z_iload (pc := 22) hR 5 dX8_cut_22 rfl ?_
      refine z_chk (fun hc11 => ?_)
      refine z_bald (pc := 24) hR (n := 400) kxa_1 hc11.1 hc11.2 dX8_cut_24 ?_
      refine z_sipush (pc := 25) hR dX8_cut_25 rfl ?_
      refine z_iand (pc := 28) hR dX8_cut_28 ?_
      refine z_let1 (fun v12 => ?_)
      refine z_istore (pc := 29) hR (lv' := [(6, 0, v12), (0, 2, 2), (1, 2, 1), (2, 0, a2), (3, 0, x1), (4, 0, x2), (5, 0, x3)]) dX8_cut_29 (by decide) rfl ?_
      refine z_iload (pc := 31) hR 6 dX8_cut_31 rfl ?_
      refine z_iload (pc := 33) hR 5 dX8_cut_33 rfl ?_
      refine z_icmplt (pc := 35) (tgt := 108) hR dX8_cut_35 (by decide) ?_ ?_
      · refine z_iinc (pc := 108) hR (j := 6) (lv' := [(5, 0, (w32 (x3 + 1))), (6, 0, v12), (0, 2, 2), (1, 2, 1), (2, 0, a2), (3, 0, x1), (4, 0, x2)]) dX8_cut_108 rfl (by decide) rfl ?_
        refine z_goto (pc := 111) (tgt := 8) hR dX8_cut_111 (by decide) ?_
        refine z_pick (pc := 8) (lv' := [(0, 2, 2), (1, 2, 1), (2, 0, a2), (3, 0, x1), (4, 0, x2), (5, 0, (w32 (x3 + 1)))]) hR [2, 3, 4, 5, 6, 0] rfl ?_
        exact hh8 (x1, x2, (w32 (x3 + 1)), M4)
      · refine z_iload (pc := 38) hR 0 dX8_cut_38 rfl ?_
        refine z_bipush (pc := 40) hR dX8_cut_40 rfl ?_
        refine z_icmpne (pc := 42) (tgt := 48) hR dX8_cut_42 (by decide) ?_ ?_
        · refine z_aload_n (pc := 48) hR 1 dX8_cut_48 rfl rfl ?_
          refine z_getr (pc := 49) hR (c0 := 2) (r := 4) jf_RX8_15 kxo_2 (by decide) rfl rfl dX8_cut_49 ?_
          refine z_iload_n (pc := 52) hR 4 dX8_cut_52 rfl rfl ?_
          refine z_iload (pc := 53) hR 6 dX8_cut_53 rfl ?_
          refine z_chk (fun hc13 => ?_)
          refine z_iast (pc := 55) hR (n := 401) kxa_4 hc13.1 hc13.2 dX8_cut_55 (fun M14 => ?_)
          refine z_iload (pc := 56) hR 0 dX8_cut_56 rfl ?_
          refine z_callsp (pc := 58) hR (As := [(0, v12)]) (st := []) jm_X8_isDigit jl_RX8_21 (by decide) (c_To_isDigit N v12 M14) rfl (by decide) (by decide) rfl (Nat.le_of_ble_eq_true rfl) dX8_cut_58 (fun r15 => ?_)
          refine z_ifeq (pc := 61) (tgt := 76) hR dX8_cut_61 (by decide) ?_ ?_
          · refine z_iload (pc := 76) hR 0 dX8_cut_76 rfl ?_
            refine z_callsp (pc := 78) hR (As := [(0, v12)]) (st := []) jm_X8_isSmallLetter jl_RX8_29 (by decide) (c_To_isSmallLetter N v12 M14) rfl (by decide) (by decide) rfl (Nat.le_of_ble_eq_true rfl) dX8_cut_78 (fun r16 => ?_)
            refine z_ifeq (pc := 81) (tgt := 96) hR dX8_cut_81 (by decide) ?_ ?_
            · refine z_aload_n (pc := 96) hR 1 dX8_cut_96 rfl rfl ?_
              refine z_aload_n (pc := 97) hR 2 dX8_cut_97 rfl rfl ?_
              refine z_iload_n (pc := 98) hR 3 dX8_cut_98 rfl rfl ?_
              refine z_iload_n (pc := 99) hR 4 dX8_cut_99 rfl rfl ?_
              refine z_callv1 (pc := 100) hR (As := [(2, 1), (0, a2), (0, x1)]) (st := []) jm_X8_cutSign jl_RX8_35 kxo_2 (by decide) rfl (by decide) (c_To_cutSign N a2 x1 M14) rfl (by decide) (by decide) rfl (Nat.le_of_ble_eq_true rfl) dX8_cut_100 (fun r17 M18 => ?_)
              refine z_istore (pc := 103) hR (lv' := [(4, 0, r17), (6, 0, v12), (0, 2, 2), (1, 2, 1), (2, 0, a2), (3, 0, x1), (5, 0, x3)]) dX8_cut_103 (by decide) rfl ?_
              refine z_iinc (pc := 105) hR (j := 5) (lv' := [(3, 0, (w32 (x1 + 1))), (4, 0, r17), (6, 0, v12), (0, 2, 2), (1, 2, 1), (2, 0, a2), (5, 0, x3)]) dX8_cut_105 rfl (by decide) rfl ?_
              refine z_iinc (pc := 108) hR (j := 6) (lv' := [(5, 0, (w32 (x3 + 1))), (3, 0, (w32 (x1 + 1))), (4, 0, r17), (6, 0, v12), (0, 2, 2), (1, 2, 1), (2, 0, a2)]) dX8_cut_108 rfl (by decide) rfl ?_
              refine z_goto (pc := 111) (tgt := 8) hR dX8_cut_111 (by decide) ?_
              refine z_pick (pc := 8) (lv' := [(0, 2, 2), (1, 2, 1), (2, 0, a2), (3, 0, (w32 (x1 + 1))), (4, 0, r17), (5, 0, (w32 (x3 + 1)))]) hR [4, 5, 6, 1, 2, 0] rfl ?_
              exact hh8 ((w32 (x1 + 1)), r17, (w32 (x3 + 1)), M18)
            · refine z_aload_n (pc := 84) hR 1 dX8_cut_84 rfl rfl ?_
              refine z_aload_n (pc := 85) hR 2 dX8_cut_85 rfl rfl ?_
              refine z_iload_n (pc := 86) hR 3 dX8_cut_86 rfl rfl ?_
              refine z_iload_n (pc := 87) hR 4 dX8_cut_87 rfl rfl ?_
              refine z_callv1 (pc := 88) hR (As := [(2, 1), (0, a2), (0, x1)]) (st := []) jm_X8_cutWord jl_RX8_32 kxo_2 (by decide) rfl (by decide) (c_To_cutWord N a2 x1 M14) rfl (by decide) (by decide) rfl (Nat.le_of_ble_eq_true rfl) dX8_cut_88 (fun r19 M20 => ?_)
              refine z_istore (pc := 91) hR (lv' := [(4, 0, r19), (6, 0, v12), (0, 2, 2), (1, 2, 1), (2, 0, a2), (3, 0, x1), (5, 0, x3)]) dX8_cut_91 (by decide) rfl ?_
              refine z_goto (pc := 93) (tgt := 105) hR dX8_cut_93 (by decide) ?_
              refine z_iinc (pc := 105) hR (j := 5) (lv' := [(3, 0, (w32 (x1 + 1))), (4, 0, r19), (6, 0, v12), (0, 2, 2), (1, 2, 1), (2, 0, a2), (5, 0, x3)]) dX8_cut_105 rfl (by decide) rfl ?_
              refine z_iinc (pc := 108) hR (j := 6) (lv' := [(5, 0, (w32 (x3 + 1))), (3, 0, (w32 (x1 + 1))), (4, 0, r19), (6, 0, v12), (0, 2, 2), (1, 2, 1), (2, 0, a2)]) dX8_cut_108 rfl (by decide) rfl ?_
              refine z_goto (pc := 111) (tgt := 8) hR dX8_cut_111 (by decide) ?_
              refine z_pick (pc := 8) (lv' := [(0, 2, 2), (1, 2, 1), (2, 0, a2), (3, 0, (w32 (x1 + 1))), (4, 0, r19), (5, 0, (w32 (x3 + 1)))]) hR [4, 5, 6, 1, 2, 0] rfl ?_
              exact hh8 ((w32 (x1 + 1)), r19, (w32 (x3 + 1)), M20)
          · refine z_aload_n (pc := 64) hR 1 dX8_cut_64 rfl rfl ?_
            refine z_aload_n (pc := 65) hR 2 dX8_cut_65 rfl rfl ?_
            refine z_iload_n (pc := 66) hR 3 dX8_cut_66 rfl rfl ?_
            refine z_iload_n (pc := 67) hR 4 dX8_cut_67 rfl rfl ?_
            refine z_callv1 (pc := 68) hR (As := [(2, 1), (0, a2), (0, x1)]) (st := []) jm_X8_cutNumber jl_RX8_25 kxo_2 (by decide) rfl (by decide) (c_To_cutNumber N a2 x1 M14) rfl (by decide) (by decide) rfl (Nat.le_of_ble_eq_true rfl) dX8_cut_68 (fun r21 M22 => ?_)
            refine z_istore (pc := 71) hR (lv' := [(4, 0, r21), (6, 0, v12), (0, 2, 2), (1, 2, 1), (2, 0, a2), (3, 0, x1), (5, 0, x3)]) dX8_cut_71 (by decide) rfl ?_
            refine z_goto (pc := 73) (tgt := 105) hR dX8_cut_73 (by decide) ?_
            refine z_iinc (pc := 105) hR (j := 5) (lv' := [(3, 0, (w32 (x1 + 1))), (4, 0, r21), (6, 0, v12), (0, 2, 2), (1, 2, 1), (2, 0, a2), (5, 0, x3)]) dX8_cut_105 rfl (by decide) rfl ?_
            refine z_iinc (pc := 108) hR (j := 6) (lv' := [(5, 0, (w32 (x3 + 1))), (3, 0, (w32 (x1 + 1))), (4, 0, r21), (6, 0, v12), (0, 2, 2), (1, 2, 1), (2, 0, a2)]) dX8_cut_108 rfl (by decide) rfl ?_
            refine z_goto (pc := 111) (tgt := 8) hR dX8_cut_111 (by decide) ?_
            refine z_pick (pc := 8) (lv' := [(0, 2, 2), (1, 2, 1), (2, 0, a2), (3, 0, (w32 (x1 + 1))), (4, 0, r21), (5, 0, (w32 (x3 + 1)))]) hR [4, 5, 6, 1, 2, 0] rfl ?_
            exact hh8 ((w32 (x1 + 1)), r21, (w32 (x3 + 1)), M22)
        · refine z_goto (pc := 45) (tgt := 108) hR dX8_cut_45 (by decide) ?_
          refine z_iinc (pc := 108) hR (j := 6) (lv' := [(5, 0, (w32 (x3 + 1))), (6, 0, v12), (0, 2, 2), (1, 2, 1), (2, 0, a2), (3, 0, x1), (4, 0, x2)]) dX8_cut_108 rfl (by decide) rfl ?_
          refine z_goto (pc := 111) (tgt := 8) hR dX8_cut_111 (by decide) ?_
          refine z_pick (pc := 8) (lv' := [(0, 2, 2), (1, 2, 1), (2, 0, a2), (3, 0, x1), (4, 0, x2), (5, 0, (w32 (x3 + 1)))]) hR [2, 3, 4, 5, 6, 0] rfl ?_
          exact hh8 (x1, x2, (w32 (x3 + 1)), M4)
theorem dX11_cutTape_0 : decode cX11_cutTape 0 = .ok (.aload_n 0, 1) := by decide +kernel
theorem dX11_cutTape_1 : decode cX11_cutTape 1 = .ok (.getfield 16, 3) := by decide +kernel
theorem dX11_cutTape_4 : decode cX11_cutTape 4 = .ok (.aload_n 0, 1) := by decide +kernel
theorem dX11_cutTape_5 : decode cX11_cutTape 5 = .ok (.getfield 9, 3) := by decide +kernel
theorem dX11_cutTape_8 : decode cX11_cutTape 8 = .ok (.aload_n 0, 1) := by decide +kernel
theorem dX11_cutTape_9 : decode cX11_cutTape 9 = .ok (.getfield 80, 3) := by decide +kernel
theorem dX11_cutTape_12 : decode cX11_cutTape 12 = .ok (.invokevirtual 133, 3) := by decide +kernel
theorem dX11_cutTape_15 : decode cX11_cutTape 15 = .ok (.aload_n 0, 1) := by decide +kernel
theorem dX11_cutTape_16 : decode cX11_cutTape 16 = .ok (.iconst 0, 1) := by decide +kernel
theorem dX11_cutTape_17 : decode cX11_cutTape 17 = .ok (.putfield 80, 3) := by decide +kernel
theorem dX11_cutTape_20 : decode cX11_cutTape 20 = .ok (.return_, 1) := by decide +kernel
def x_cutTape (N : Nat) (M : jMem) : Option (Int × jMem) := jbv (To_cut N ((M 0 1)) M) fun M1 => jlt (up M1 0 1 0) fun M2 => some (0, M2)
theorem c_x_cutTape {l : Launch} {g : jG} (N : Nat) (M : jMem)  : ∀ o, x_cutTape N  M = some o → jCt l g jTX yX11_cutTape cX11_cutTape 1 none 3 18 [(2, 0)] M o := by
  refine jMet (own := RX11) (em := id) (L := [(0, 2, 0)]) (by decide +kernel) rfl (Nat.le_of_ble_eq_true rfl) rfl (fun K hR => ?_)
  unfold x_cutTape
  refine z_aload_n (pc := 0) hR 0 dX11_cutTape_0 rfl rfl ?_
  refine z_getr (pc := 1) hR (c0 := 2) (r := 2) jf_RX11_16 kxo_0 (by decide) rfl rfl dX11_cutTape_1 ?_
  refine z_aload_n (pc := 4) hR 0 dX11_cutTape_4 rfl rfl ?_
  refine z_getr (pc := 5) hR (c0 := 1) (r := 1) jf_RX11_9 kxo_0 (by decide) rfl rfl dX11_cutTape_5 ?_
  refine z_aload_n (pc := 8) hR 0 dX11_cutTape_8 rfl rfl ?_
  refine z_geti (pc := 9) hR (j := 1) jf_RX11_80 kxo_0 (by decide) rfl rfl dX11_cutTape_9 ?_
  refine z_callv0 (pc := 12) (rk' := 3) hR (As := [(2, 1), (0, (M 0 1))]) (st := []) jm_X8_cut jl_RX11_133 kxo_2 (by decide) rfl (c_To_cut N ((M 0 1)) M) rfl (by decide) (by decide) rfl (Nat.le_of_ble_eq_true rfl) dX11_cutTape_12 (fun M1 => ?_)
  refine z_aload_n (pc := 15) hR 0 dX11_cutTape_15 rfl rfl ?_
  refine z_iconst (pc := 16) hR dX11_cutTape_16 rfl ?_
  refine z_puti (pc := 17) hR (j := 1) jp_RX11_80 kxo_0 (by decide) rfl rfl rfl rfl dX11_cutTape_17 (fun M2 => ?_)
  exact z_return (x := 0) (pc := 20) hR rfl rfl dX11_cutTape_20 rfl
theorem dX4_setUntold_0 : decode cX4_setUntold 0 = .ok (.aload_n 0, 1) := by decide +kernel
theorem dX4_setUntold_1 : decode cX4_setUntold 1 = .ok (.iconst 0, 1) := by decide +kernel
theorem dX4_setUntold_2 : decode cX4_setUntold 2 = .ok (.putfield 27, 3) := by decide +kernel
theorem dX4_setUntold_5 : decode cX4_setUntold 5 = .ok (.aload_n 0, 1) := by decide +kernel
theorem dX4_setUntold_6 : decode cX4_setUntold 6 = .ok (.iconst 0, 1) := by decide +kernel
theorem dX4_setUntold_7 : decode cX4_setUntold 7 = .ok (.putfield 31, 3) := by decide +kernel
theorem dX4_setUntold_10 : decode cX4_setUntold 10 = .ok (.iconst 0, 1) := by decide +kernel
theorem dX4_setUntold_11 : decode cX4_setUntold 11 = .ok (.istore_n 1, 1) := by decide +kernel
theorem dX4_setUntold_12 : decode cX4_setUntold 12 = .ok (.iload_n 1, 1) := by decide +kernel
theorem dX4_setUntold_13 : decode cX4_setUntold 13 = .ok (.bipush 7, 2) := by decide +kernel
theorem dX4_setUntold_15 : decode cX4_setUntold 15 = .ok (.if_icmp .ge 45, 3) := by decide +kernel
theorem dX4_setUntold_18 : decode cX4_setUntold 18 = .ok (.aload_n 0, 1) := by decide +kernel
theorem dX4_setUntold_19 : decode cX4_setUntold 19 = .ok (.getfield 9, 3) := by decide +kernel
theorem dX4_setUntold_22 : decode cX4_setUntold 22 = .ok (.iload_n 1, 1) := by decide +kernel
theorem dX4_setUntold_23 : decode cX4_setUntold 23 = .ok (.bipush 9, 2) := by decide +kernel
theorem dX4_setUntold_25 : decode cX4_setUntold 25 = .ok (.iastore, 1) := by decide +kernel
theorem dX4_setUntold_26 : decode cX4_setUntold 26 = .ok (.aload_n 0, 1) := by decide +kernel
theorem dX4_setUntold_27 : decode cX4_setUntold 27 = .ok (.getfield 15, 3) := by decide +kernel
theorem dX4_setUntold_30 : decode cX4_setUntold 30 = .ok (.iload_n 1, 1) := by decide +kernel
theorem dX4_setUntold_31 : decode cX4_setUntold 31 = .ok (.iconst 0, 1) := by decide +kernel
theorem dX4_setUntold_32 : decode cX4_setUntold 32 = .ok (.iastore, 1) := by decide +kernel
theorem dX4_setUntold_33 : decode cX4_setUntold 33 = .ok (.aload_n 0, 1) := by decide +kernel
theorem dX4_setUntold_34 : decode cX4_setUntold 34 = .ok (.getfield 18, 3) := by decide +kernel
theorem dX4_setUntold_37 : decode cX4_setUntold 37 = .ok (.iload_n 1, 1) := by decide +kernel
theorem dX4_setUntold_38 : decode cX4_setUntold 38 = .ok (.iconst 1, 1) := by decide +kernel
theorem dX4_setUntold_39 : decode cX4_setUntold 39 = .ok (.iastore, 1) := by decide +kernel
theorem dX4_setUntold_40 : decode cX4_setUntold 40 = .ok (.aload_n 0, 1) := by decide +kernel
theorem dX4_setUntold_41 : decode cX4_setUntold 41 = .ok (.getfield 21, 3) := by decide +kernel
theorem dX4_setUntold_44 : decode cX4_setUntold 44 = .ok (.iload_n 1, 1) := by decide +kernel
theorem dX4_setUntold_45 : decode cX4_setUntold 45 = .ok (.iconst 2, 1) := by decide +kernel
theorem dX4_setUntold_46 : decode cX4_setUntold 46 = .ok (.iastore, 1) := by decide +kernel
theorem dX4_setUntold_47 : decode cX4_setUntold 47 = .ok (.aload_n 0, 1) := by decide +kernel
theorem dX4_setUntold_48 : decode cX4_setUntold 48 = .ok (.getfield 24, 3) := by decide +kernel
theorem dX4_setUntold_51 : decode cX4_setUntold 51 = .ok (.iload_n 1, 1) := by decide +kernel
theorem dX4_setUntold_52 : decode cX4_setUntold 52 = .ok (.iconst 0, 1) := by decide +kernel
theorem dX4_setUntold_53 : decode cX4_setUntold 53 = .ok (.iastore, 1) := by decide +kernel
theorem dX4_setUntold_54 : decode cX4_setUntold 54 = .ok (.iinc 1 1, 3) := by decide +kernel
theorem dX4_setUntold_57 : decode cX4_setUntold 57 = .ok (.goto (-45), 3) := by decide +kernel
theorem dX4_setUntold_60 : decode cX4_setUntold 60 = .ok (.return_, 1) := by decide +kernel
def Pa_setUntold_L12 (N : Nat) (q : Int) (h12 : (Int × jMem) → Option (Int × jMem)) : Int × jMem → Option (Int × jMem)
  | (x3, M4) => (if x3 < 7 then jchk (0 ≤ x3 ∧ x3 < 7) <| jlt (up M4 ((q + 1)) x3 9) fun M6 => jchk (0 ≤ x3 ∧ x3 < 7) <| jlt (up M6 ((q + 2)) x3 0) fun M8 => jchk (0 ≤ x3 ∧ x3 < 7) <| jlt (up M8 ((q + 3)) x3 1) fun M10 => jchk (0 ≤ x3 ∧ x3 < 7) <| jlt (up M10 ((q + 4)) x3 2) fun M12 => jchk (0 ≤ x3 ∧ x3 < 7) <| jlt (up M12 ((q + 5)) x3 0) fun M14 => h12 ((w32 (x3 + 1)), M14) else some (0, M4))
def Pa_setUntold (N : Nat) (q : Int) (M : jMem) : Option (Int × jMem) := jlt (up M q 0 0) fun M1 => jlt (up M1 q 1 0) fun M2 => jfix N (Pa_setUntold_L12 N q) (0, M2)
theorem c_Pa_setUntold {l : Launch} {g : jG} (N : Nat) (q : Int) (M : jMem) (hq : jk jTX q 4) : ∀ o, Pa_setUntold N q M = some o → jCt l g jTX yX4_setUntold cX4_setUntold 2 none 3 1 [(2, q)] M o := by
  refine jMet (own := RX4) (em := id) (L := [(0, 2, q)]) (by decide +kernel) rfl (Nat.le_of_ble_eq_true rfl) rfl (fun K hR => ?_)
  unfold Pa_setUntold
  refine z_aload_n (pc := 0) hR 0 dX4_setUntold_0 rfl rfl ?_
  refine z_iconst (pc := 1) hR dX4_setUntold_1 rfl ?_
  refine z_puti (pc := 2) hR (j := 0) jp_RX4_27 hq (by decide) rfl rfl rfl rfl dX4_setUntold_2 (fun M1 => ?_)
  refine z_aload_n (pc := 5) hR 0 dX4_setUntold_5 rfl rfl ?_
  refine z_iconst (pc := 6) hR dX4_setUntold_6 rfl ?_
  refine z_puti (pc := 7) hR (j := 1) jp_RX4_31 hq (by decide) rfl rfl rfl rfl dX4_setUntold_7 (fun M2 => ?_)
  refine z_iconst (pc := 10) hR dX4_setUntold_10 rfl ?_
  refine z_istore_n (pc := 11) hR (lv' := [(1, 0, 0), (0, 2, q)]) dX4_setUntold_11 rfl (by decide) rfl ?_
  refine z_pick (pc := 12) (lv' := [(0, 2, q), (1, 0, 0)]) hR [1, 0] rfl ?_
  refine z_fix (σ := Int × jMem) (lv := fun s => [(0, 2, q), (1, 0, s.1)]) (st := fun _ => []) (M := fun s => s.2) (fun h12 hh12 => ?_) N (0, M2)
  rintro ⟨x3, M4⟩
  show jZ K id 12 [(0, 2, q), (1, 0, x3)] [] M4 _
  unfold Pa_setUntold_L12
  refine z_iload_n (pc := 12) hR 1 dX4_setUntold_12 rfl rfl ?_
  refine z_bipush (pc := 13) hR dX4_setUntold_13 rfl ?_
  refine z_icmpge (pc := 15) (tgt := 60) hR dX4_setUntold_15 (by decide) ?_ ?_
  · exact z_return (x := 0) (pc := 60) hR rfl rfl dX4_setUntold_60 rfl
  · refine z_aload_n (pc := 18) hR 0 dX4_setUntold_18 rfl rfl ?_
    refine z_getr (pc := 19) hR (c0 := 1) (r := (q + 1)) jf_RX4_9 hq (by decide) rfl rfl dX4_setUntold_19 ?_
    refine z_iload_n (pc := 22) hR 1 dX4_setUntold_22 rfl rfl ?_
    refine z_bipush (pc := 23) hR dX4_setUntold_23 rfl ?_
    refine z_chk (fun hc5 => ?_)
    refine z_iast (pc := 25) hR (n := 7) (kf_4_depth hq) hc5.1 hc5.2 dX4_setUntold_25 (fun M6 => ?_)
    refine z_aload_n (pc := 26) hR 0 dX4_setUntold_26 rfl rfl ?_
    refine z_getr (pc := 27) hR (c0 := 2) (r := (q + 2)) jf_RX4_15 hq (by decide) rfl rfl dX4_setUntold_27 ?_
    refine z_iload_n (pc := 30) hR 1 dX4_setUntold_30 rfl rfl ?_
    refine z_iconst (pc := 31) hR dX4_setUntold_31 rfl ?_
    refine z_chk (fun hc7 => ?_)
    refine z_iast (pc := 32) hR (n := 7) (kf_4_taste hq) hc7.1 hc7.2 dX4_setUntold_32 (fun M8 => ?_)
    refine z_aload_n (pc := 33) hR 0 dX4_setUntold_33 rfl rfl ?_
    refine z_getr (pc := 34) hR (c0 := 3) (r := (q + 3)) jf_RX4_18 hq (by decide) rfl rfl dX4_setUntold_34 ?_
    refine z_iload_n (pc := 37) hR 1 dX4_setUntold_37 rfl rfl ?_
    refine z_iconst (pc := 38) hR dX4_setUntold_38 rfl ?_
    refine z_chk (fun hc9 => ?_)
    refine z_iast (pc := 39) hR (n := 7) (kf_4_draws hq) hc9.1 hc9.2 dX4_setUntold_39 (fun M10 => ?_)
    refine z_aload_n (pc := 40) hR 0 dX4_setUntold_40 rfl rfl ?_
    refine z_getr (pc := 41) hR (c0 := 4) (r := (q + 4)) jf_RX4_21 hq (by decide) rfl rfl dX4_setUntold_41 ?_
    refine z_iload_n (pc := 44) hR 1 dX4_setUntold_44 rfl rfl ?_
    refine z_iconst (pc := 45) hR dX4_setUntold_45 rfl ?_
    refine z_chk (fun hc11 => ?_)
    refine z_iast (pc := 46) hR (n := 7) (kf_4_heirs hq) hc11.1 hc11.2 dX4_setUntold_46 (fun M12 => ?_)
    refine z_aload_n (pc := 47) hR 0 dX4_setUntold_47 rfl rfl ?_
    refine z_getr (pc := 48) hR (c0 := 5) (r := (q + 5)) jf_RX4_24 hq (by decide) rfl rfl dX4_setUntold_48 ?_
    refine z_iload_n (pc := 51) hR 1 dX4_setUntold_51 rfl rfl ?_
    refine z_iconst (pc := 52) hR dX4_setUntold_52 rfl ?_
    refine z_chk (fun hc13 => ?_)
    refine z_iast (pc := 53) hR (n := 7) (kf_4_kin hq) hc13.1 hc13.2 dX4_setUntold_53 (fun M14 => ?_)
    refine z_iinc (pc := 54) hR (j := 1) (lv' := [(1, 0, (w32 (x3 + 1))), (0, 2, q)]) dX4_setUntold_54 rfl (by decide) rfl ?_
    refine z_goto (pc := 57) (tgt := 12) hR dX4_setUntold_57 (by decide) ?_
    refine z_pick (pc := 12) (lv' := [(0, 2, q), (1, 0, (w32 (x3 + 1)))]) hR [1, 0] rfl ?_
    exact hh12 ((w32 (x3 + 1)), M14)
theorem dX8_looked_0 : decode cX8_looked 0 = .ok (.aload_n 0, 1) := by decide +kernel
theorem dX8_looked_1 : decode cX8_looked 1 = .ok (.getfield 42, 3) := by decide +kernel
theorem dX8_looked_4 : decode cX8_looked 4 = .ok (.ifCond .ne 15, 3) := by decide +kernel
theorem dX8_looked_7 : decode cX8_looked 7 = .ok (.aload_n 0, 1) := by decide +kernel
theorem dX8_looked_8 : decode cX8_looked 8 = .ok (.getfield 9, 3) := by decide +kernel
theorem dX8_looked_11 : decode cX8_looked 11 = .ok (.aload_n 0, 1) := by decide +kernel
theorem dX8_looked_12 : decode cX8_looked 12 = .ok (.getfield 38, 3) := by decide +kernel
theorem dX8_looked_15 : decode cX8_looked 15 = .ok (.iaload, 1) := by decide +kernel
theorem dX8_looked_16 : decode cX8_looked 16 = .ok (.goto 4, 3) := by decide +kernel
theorem dX8_looked_19 : decode cX8_looked 19 = .ok (.iconst 0, 1) := by decide +kernel
theorem dX8_looked_20 : decode cX8_looked 20 = .ok (.ireturn, 1) := by decide +kernel
def To_looked (N : Nat) (M : jMem) : Option Int := (if (M 2 4) = 0 then jchk (0 ≤ (M 2 3) ∧ (M 2 3) < 401) <| some ((M 3 ((M 2 3)))) else some 0)
theorem c_To_looked {l : Launch} {g : jG} (N : Nat) (M : jMem)  : ∀ o, To_looked N  M = some o → jCt l g jTX yX8_looked cX8_looked 1 (some .int) 0 1 [(2, 2)] M (o, M) := by
  refine jMet (own := RX8) (em := (fun r => (r, M))) (L := [(0, 2, 2)]) (by decide +kernel) rfl (Nat.le_of_ble_eq_true rfl) rfl (fun K hR => ?_)
  unfold To_looked
  refine z_aload_n (pc := 0) hR 0 dX8_looked_0 rfl rfl ?_
  refine z_geti (pc := 1) hR (j := 4) jf_RX8_42 kxo_2 (by decide) rfl rfl dX8_looked_1 ?_
  refine z_ifne (pc := 4) (tgt := 19) hR dX8_looked_4 (by decide) ?_ ?_
  · refine z_iconst (pc := 19) hR dX8_looked_19 rfl ?_
    exact z_ireturn (pc := 20) hR rfl rfl dX8_looked_20 rfl
  · refine z_aload_n (pc := 7) hR 0 dX8_looked_7 rfl rfl ?_
    refine z_getr (pc := 8) hR (c0 := 1) (r := 3) jf_RX8_9 kxo_2 (by decide) rfl rfl dX8_looked_8 ?_
    refine z_aload_n (pc := 11) hR 0 dX8_looked_11 rfl rfl ?_
    refine z_geti (pc := 12) hR (j := 3) jf_RX8_38 kxo_2 (by decide) rfl rfl dX8_looked_12 ?_
    refine z_chk (fun hc1 => ?_)
    refine z_iald (pc := 15) hR (n := 401) kxa_3 hc1.1 hc1.2 dX8_looked_15 ?_
    refine z_goto (pc := 16) (tgt := 20) hR dX8_looked_16 (by decide) ?_
    exact z_ireturn (pc := 20) hR rfl rfl dX8_looked_20 rfl
theorem dX8_fail_0 : decode cX8_fail 0 = .ok (.aload_n 0, 1) := by decide +kernel
theorem dX8_fail_1 : decode cX8_fail 1 = .ok (.getfield 42, 3) := by decide +kernel
theorem dX8_fail_4 : decode cX8_fail 4 = .ok (.ifCond .ne 23, 3) := by decide +kernel
theorem dX8_fail_7 : decode cX8_fail 7 = .ok (.aload_n 0, 1) := by decide +kernel
theorem dX8_fail_8 : decode cX8_fail 8 = .ok (.iconst 1, 1) := by decide +kernel
theorem dX8_fail_9 : decode cX8_fail 9 = .ok (.bipush 8, 2) := by decide +kernel
theorem dX8_fail_11 : decode cX8_fail 11 = .ok (.aload_n 0, 1) := by decide +kernel
theorem dX8_fail_12 : decode cX8_fail 12 = .ok (.getfield 15, 3) := by decide +kernel
theorem dX8_fail_15 : decode cX8_fail 15 = .ok (.aload_n 0, 1) := by decide +kernel
theorem dX8_fail_16 : decode cX8_fail 16 = .ok (.getfield 38, 3) := by decide +kernel
theorem dX8_fail_19 : decode cX8_fail 19 = .ok (.iaload, 1) := by decide +kernel
theorem dX8_fail_20 : decode cX8_fail 20 = .ok (.imul, 1) := by decide +kernel
theorem dX8_fail_21 : decode cX8_fail 21 = .ok (.iadd, 1) := by decide +kernel
theorem dX8_fail_22 : decode cX8_fail 22 = .ok (.iload_n 1, 1) := by decide +kernel
theorem dX8_fail_23 : decode cX8_fail 23 = .ok (.iadd, 1) := by decide +kernel
theorem dX8_fail_24 : decode cX8_fail 24 = .ok (.putfield 42, 3) := by decide +kernel
theorem dX8_fail_27 : decode cX8_fail 27 = .ok (.return_, 1) := by decide +kernel
def To_fail (N : Nat) (a1 : Int) (M : jMem) : Option (Int × jMem) := (if (M 2 4) = 0 then jchk (0 ≤ (M 2 3) ∧ (M 2 3) < 401) <| jlt (up M 2 4 ((w32 (((w32 (1 + ((w32 (8 * ((M 4 ((M 2 3)))))))))) + a1)))) fun M2 => some (0, M2) else some (0, M))
theorem c_To_fail {l : Launch} {g : jG} (N : Nat) (a1 : Int) (M : jMem)  : ∀ o, To_fail N a1 M = some o → jCt l g jTX yX8_fail cX8_fail 2 none 3 1 [(2, 2), (0, a1)] M o := by
  refine jMet (own := RX8) (em := id) (L := [(0, 2, 2), (1, 0, a1)]) (by decide +kernel) rfl (Nat.le_of_ble_eq_true rfl) rfl (fun K hR => ?_)
  unfold To_fail
  refine z_aload_n (pc := 0) hR 0 dX8_fail_0 rfl rfl ?_
  refine z_geti (pc := 1) hR (j := 4) jf_RX8_42 kxo_2 (by decide) rfl rfl dX8_fail_1 ?_
  refine z_ifne (pc := 4) (tgt := 27) hR dX8_fail_4 (by decide) ?_ ?_
  · exact z_return (x := 0) (pc := 27) hR rfl rfl dX8_fail_27 rfl
  · refine z_aload_n (pc := 7) hR 0 dX8_fail_7 rfl rfl ?_
    refine z_iconst (pc := 8) hR dX8_fail_8 rfl ?_
    refine z_bipush (pc := 9) hR dX8_fail_9 rfl ?_
    refine z_aload_n (pc := 11) hR 0 dX8_fail_11 rfl rfl ?_
    refine z_getr (pc := 12) hR (c0 := 2) (r := 4) jf_RX8_15 kxo_2 (by decide) rfl rfl dX8_fail_12 ?_
    refine z_aload_n (pc := 15) hR 0 dX8_fail_15 rfl rfl ?_
    refine z_geti (pc := 16) hR (j := 3) jf_RX8_38 kxo_2 (by decide) rfl rfl dX8_fail_16 ?_
    refine z_chk (fun hc1 => ?_)
    refine z_iald (pc := 19) hR (n := 401) kxa_4 hc1.1 hc1.2 dX8_fail_19 ?_
    refine z_imul (pc := 20) hR dX8_fail_20 ?_
    refine z_iadd (pc := 21) hR dX8_fail_21 ?_
    refine z_iload_n (pc := 22) hR 1 dX8_fail_22 rfl rfl ?_
    refine z_iadd (pc := 23) hR dX8_fail_23 ?_
    refine z_puti (pc := 24) hR (j := 4) jp_RX8_42 kxo_2 (by decide) rfl rfl rfl rfl dX8_fail_24 (fun M2 => ?_)
    exact z_return (x := 0) (pc := 27) hR rfl rfl dX8_fail_27 rfl
theorem dX8_move_0 : decode cX8_move 0 = .ok (.aload_n 0, 1) := by decide +kernel
theorem dX8_move_1 : decode cX8_move 1 = .ok (.getfield 9, 3) := by decide +kernel
theorem dX8_move_4 : decode cX8_move 4 = .ok (.aload_n 0, 1) := by decide +kernel
theorem dX8_move_5 : decode cX8_move 5 = .ok (.getfield 38, 3) := by decide +kernel
theorem dX8_move_8 : decode cX8_move 8 = .ok (.iaload, 1) := by decide +kernel
theorem dX8_move_9 : decode cX8_move 9 = .ok (.ifCond .eq 13, 3) := by decide +kernel
theorem dX8_move_12 : decode cX8_move 12 = .ok (.aload_n 0, 1) := by decide +kernel
theorem dX8_move_13 : decode cX8_move 13 = .ok (.dup, 1) := by decide +kernel
theorem dX8_move_14 : decode cX8_move 14 = .ok (.getfield 38, 3) := by decide +kernel
theorem dX8_move_17 : decode cX8_move 17 = .ok (.iconst 1, 1) := by decide +kernel
theorem dX8_move_18 : decode cX8_move 18 = .ok (.iadd, 1) := by decide +kernel
theorem dX8_move_19 : decode cX8_move 19 = .ok (.putfield 38, 3) := by decide +kernel
theorem dX8_move_22 : decode cX8_move 22 = .ok (.return_, 1) := by decide +kernel
def To_move (N : Nat) (M : jMem) : Option (Int × jMem) := jchk (0 ≤ (M 2 3) ∧ (M 2 3) < 401) <| (if (M 3 ((M 2 3))) = 0 then some (0, M) else jlt (up M 2 3 ((w32 (((M 2 3)) + 1)))) fun M2 => some (0, M2))
theorem c_To_move {l : Launch} {g : jG} (N : Nat) (M : jMem)  : ∀ o, To_move N  M = some o → jCt l g jTX yX8_move cX8_move 1 none 3 1 [(2, 2)] M o := by
  refine jMet (own := RX8) (em := id) (L := [(0, 2, 2)]) (by decide +kernel) rfl (Nat.le_of_ble_eq_true rfl) rfl (fun K hR => ?_)
  unfold To_move
  refine z_aload_n (pc := 0) hR 0 dX8_move_0 rfl rfl ?_
  refine z_getr (pc := 1) hR (c0 := 1) (r := 3) jf_RX8_9 kxo_2 (by decide) rfl rfl dX8_move_1 ?_
  refine z_aload_n (pc := 4) hR 0 dX8_move_4 rfl rfl ?_
  refine z_geti (pc := 5) hR (j := 3) jf_RX8_38 kxo_2 (by decide) rfl rfl dX8_move_5 ?_
  refine z_chk (fun hc1 => ?_)
  refine z_iald (pc := 8) hR (n := 401) kxa_3 hc1.1 hc1.2 dX8_move_8 ?_
  refine z_ifeq (pc := 9) (tgt := 22) hR dX8_move_9 (by decide) ?_ ?_
  · exact z_return (x := 0) (pc := 22) hR rfl rfl dX8_move_22 rfl
  · refine z_aload_n (pc := 12) hR 0 dX8_move_12 rfl rfl ?_
    refine z_dup (pc := 13) hR dX8_move_13 (by decide) ?_
    refine z_geti (pc := 14) hR (j := 3) jf_RX8_38 kxo_2 (by decide) rfl rfl dX8_move_14 ?_
    refine z_iconst (pc := 17) hR dX8_move_17 rfl ?_
    refine z_iadd (pc := 18) hR dX8_move_18 ?_
    refine z_puti (pc := 19) hR (j := 3) jp_RX8_38 kxo_2 (by decide) rfl rfl rfl rfl dX8_move_19 (fun M2 => ?_)
    exact z_return (x := 0) (pc := 22) hR rfl rfl dX8_move_22 rfl
theorem dX8_takeNumber_0 : decode cX8_takeNumber 0 = .ok (.aload_n 0, 1) := by decide +kernel
theorem dX8_takeNumber_1 : decode cX8_takeNumber 1 = .ok (.invokevirtual 70, 3) := by decide +kernel
theorem dX8_takeNumber_4 : decode cX8_takeNumber 4 = .ok (.istore_n 3, 1) := by decide +kernel
theorem dX8_takeNumber_5 : decode cX8_takeNumber 5 = .ok (.iload_n 3, 1) := by decide +kernel
theorem dX8_takeNumber_6 : decode cX8_takeNumber 6 = .ok (.iconst 1, 1) := by decide +kernel
theorem dX8_takeNumber_7 : decode cX8_takeNumber 7 = .ok (.if_icmp .eq 15, 3) := by decide +kernel
theorem dX8_takeNumber_10 : decode cX8_takeNumber 10 = .ok (.iload_n 3, 1) := by decide +kernel
theorem dX8_takeNumber_11 : decode cX8_takeNumber 11 = .ok (.iconst 2, 1) := by decide +kernel
theorem dX8_takeNumber_12 : decode cX8_takeNumber 12 = .ok (.if_icmp .eq 10, 3) := by decide +kernel
theorem dX8_takeNumber_15 : decode cX8_takeNumber 15 = .ok (.aload_n 0, 1) := by decide +kernel
theorem dX8_takeNumber_16 : decode cX8_takeNumber 16 = .ok (.iconst 0, 1) := by decide +kernel
theorem dX8_takeNumber_17 : decode cX8_takeNumber 17 = .ok (.invokevirtual 76, 3) := by decide +kernel
theorem dX8_takeNumber_20 : decode cX8_takeNumber 20 = .ok (.iload_n 1, 1) := by decide +kernel
theorem dX8_takeNumber_21 : decode cX8_takeNumber 21 = .ok (.ireturn, 1) := by decide +kernel
theorem dX8_takeNumber_22 : decode cX8_takeNumber 22 = .ok (.aload_n 0, 1) := by decide +kernel
theorem dX8_takeNumber_23 : decode cX8_takeNumber 23 = .ok (.getfield 18, 3) := by decide +kernel
theorem dX8_takeNumber_26 : decode cX8_takeNumber 26 = .ok (.aload_n 0, 1) := by decide +kernel
theorem dX8_takeNumber_27 : decode cX8_takeNumber 27 = .ok (.getfield 38, 3) := by decide +kernel
theorem dX8_takeNumber_30 : decode cX8_takeNumber 30 = .ok (.iaload, 1) := by decide +kernel
theorem dX8_takeNumber_31 : decode cX8_takeNumber 31 = .ok (.istore 4, 2) := by decide +kernel
theorem dX8_takeNumber_33 : decode cX8_takeNumber 33 = .ok (.iload_n 3, 1) := by decide +kernel
theorem dX8_takeNumber_34 : decode cX8_takeNumber 34 = .ok (.iconst 2, 1) := by decide +kernel
theorem dX8_takeNumber_35 : decode cX8_takeNumber 35 = .ok (.if_icmp .eq 15, 3) := by decide +kernel
theorem dX8_takeNumber_38 : decode cX8_takeNumber 38 = .ok (.iload 4, 2) := by decide +kernel
theorem dX8_takeNumber_40 : decode cX8_takeNumber 40 = .ok (.iload_n 1, 1) := by decide +kernel
theorem dX8_takeNumber_41 : decode cX8_takeNumber 41 = .ok (.if_icmp .lt 9, 3) := by decide +kernel
theorem dX8_takeNumber_44 : decode cX8_takeNumber 44 = .ok (.iload 4, 2) := by decide +kernel
theorem dX8_takeNumber_46 : decode cX8_takeNumber 46 = .ok (.iload_n 2, 1) := by decide +kernel
theorem dX8_takeNumber_47 : decode cX8_takeNumber 47 = .ok (.if_icmp .le 10, 3) := by decide +kernel
theorem dX8_takeNumber_50 : decode cX8_takeNumber 50 = .ok (.aload_n 0, 1) := by decide +kernel
theorem dX8_takeNumber_51 : decode cX8_takeNumber 51 = .ok (.iconst 1, 1) := by decide +kernel
theorem dX8_takeNumber_52 : decode cX8_takeNumber 52 = .ok (.invokevirtual 76, 3) := by decide +kernel
theorem dX8_takeNumber_55 : decode cX8_takeNumber 55 = .ok (.iload_n 1, 1) := by decide +kernel
theorem dX8_takeNumber_56 : decode cX8_takeNumber 56 = .ok (.ireturn, 1) := by decide +kernel
theorem dX8_takeNumber_57 : decode cX8_takeNumber 57 = .ok (.aload_n 0, 1) := by decide +kernel
theorem dX8_takeNumber_58 : decode cX8_takeNumber 58 = .ok (.invokevirtual 73, 3) := by decide +kernel
theorem dX8_takeNumber_61 : decode cX8_takeNumber 61 = .ok (.iload 4, 2) := by decide +kernel
theorem dX8_takeNumber_63 : decode cX8_takeNumber 63 = .ok (.ireturn, 1) := by decide +kernel
def To_takeNumber (N : Nat) (a1 a2 : Int) (M : jMem) : Option (Int × jMem) := (To_looked N M).bind fun r1 => jlt (fun (_ : Unit) => jchk (0 ≤ (M 2 3) ∧ (M 2 3) < 401) <| jlt ((M 5 ((M 2 3)))) fun v3 => jlt (fun (_ : Unit) => jbv (To_fail N 1 M) fun M4 => some (a1, M4)) fun j50 => (if r1 = 2 then j50 () else (if v3 < a1 then j50 () else (if a2 < v3 then j50 () else jbv (To_move N M) fun M5 => some (v3, M5))))) fun j22 => (if r1 = 1 then j22 () else (if r1 = 2 then j22 () else jbv (To_fail N 0 M) fun M6 => some (a1, M6)))
theorem c_To_takeNumber {l : Launch} {g : jG} (N : Nat) (a1 a2 : Int) (M : jMem)  : ∀ o, To_takeNumber N a1 a2 M = some o → jCt l g jTX yX8_takeNumber cX8_takeNumber 5 (some .int) 0 3 [(2, 2), (0, a1), (0, a2)] M o := by
  refine jMet (own := RX8) (em := id) (L := [(0, 2, 2), (1, 0, a1), (2, 0, a2)]) (by decide +kernel) rfl (Nat.le_of_ble_eq_true rfl) rfl (fun K hR => ?_)
  unfold To_takeNumber
  refine z_aload_n (pc := 0) hR 0 dX8_takeNumber_0 rfl rfl ?_
  refine z_callvp (pc := 1) hR (As := []) (st := []) jm_X8_looked jl_RX8_70 kxo_2 (by decide) rfl (by decide) (c_To_looked N M) rfl (by decide) (by decide) rfl (Nat.le_of_ble_eq_true rfl) dX8_takeNumber_1 (fun r1 => ?_)
  refine z_istore_n (pc := 4) hR (lv' := [(3, 0, r1), (0, 2, 2), (1, 0, a1), (2, 0, a2)]) dX8_takeNumber_4 rfl (by decide) rfl ?_
  refine z_iload_n (pc := 5) hR 0 dX8_takeNumber_5 rfl rfl ?_
  refine z_iconst (pc := 6) hR dX8_takeNumber_6 rfl ?_
  refine z_join (P := fun j => ∀ (_ : Unit), jZ K id 22 [(0, 2, 2), (1, 0, a1), (2, 0, a2), (3, 0, r1)] [] M (j ())) (fun _ => ?_) (fun j22 hj22 => ?_)
  · refine z_aload_n (pc := 22) hR 0 dX8_takeNumber_22 rfl rfl ?_
    refine z_getr (pc := 23) hR (c0 := 3) (r := 5) jf_RX8_18 kxo_2 (by decide) rfl rfl dX8_takeNumber_23 ?_
    refine z_aload_n (pc := 26) hR 0 dX8_takeNumber_26 rfl rfl ?_
    refine z_geti (pc := 27) hR (j := 3) jf_RX8_38 kxo_2 (by decide) rfl rfl dX8_takeNumber_27 ?_
    refine z_chk (fun hc2 => ?_)
    refine z_iald (pc := 30) hR (n := 401) kxa_5 hc2.1 hc2.2 dX8_takeNumber_30 ?_
    refine z_let1 (fun v3 => ?_)
    refine z_istore (pc := 31) hR (lv' := [(4, 0, v3), (0, 2, 2), (1, 0, a1), (2, 0, a2), (3, 0, r1)]) dX8_takeNumber_31 (by decide) rfl ?_
    refine z_iload_n (pc := 33) hR 4 dX8_takeNumber_33 rfl rfl ?_
    refine z_iconst (pc := 34) hR dX8_takeNumber_34 rfl ?_
    refine z_join (P := fun j => ∀ (_ : Unit), jZ K id 50 [(0, 2, 2), (1, 0, a1)] [] M (j ())) (fun _ => ?_) (fun j50 hj50 => ?_)
    · refine z_aload_n (pc := 50) hR 0 dX8_takeNumber_50 rfl rfl ?_
      refine z_iconst (pc := 51) hR dX8_takeNumber_51 rfl ?_
      refine z_callv0 (pc := 52) (rk' := 3) hR (As := [(0, 1)]) (st := []) jm_X8_fail jl_RX8_76 kxo_2 (by decide) rfl (c_To_fail N 1 M) rfl (by decide) (by decide) rfl (Nat.le_of_ble_eq_true rfl) dX8_takeNumber_52 (fun M4 => ?_)
      refine z_iload_n (pc := 55) hR 1 dX8_takeNumber_55 rfl rfl ?_
      exact z_ireturn (pc := 56) hR rfl rfl dX8_takeNumber_56 rfl
    refine z_icmpeq (pc := 35) (tgt := 50) hR dX8_takeNumber_35 (by decide) ?_ ?_
    · refine z_pick (pc := 50) (lv' := [(0, 2, 2), (1, 0, a1)]) hR [1, 2] rfl ?_
      exact hj50 ()
    · refine z_iload (pc := 38) hR 0 dX8_takeNumber_38 rfl ?_
      refine z_iload_n (pc := 40) hR 2 dX8_takeNumber_40 rfl rfl ?_
      refine z_icmplt (pc := 41) (tgt := 50) hR dX8_takeNumber_41 (by decide) ?_ ?_
      · refine z_pick (pc := 50) (lv' := [(0, 2, 2), (1, 0, a1)]) hR [1, 2] rfl ?_
        exact hj50 ()
      · refine z_iload (pc := 44) hR 0 dX8_takeNumber_44 rfl ?_
        refine z_iload_n (pc := 46) hR 3 dX8_takeNumber_46 rfl rfl ?_
        refine z_icmple (pc := 47) (tgt := 57) hR dX8_takeNumber_47 (by decide) ?_ ?_
        · refine z_aload_n (pc := 57) hR 1 dX8_takeNumber_57 rfl rfl ?_
          refine z_callv0 (pc := 58) (rk' := 3) hR (As := []) (st := []) jm_X8_move jl_RX8_73 kxo_2 (by decide) rfl (c_To_move N M) rfl (by decide) (by decide) rfl (Nat.le_of_ble_eq_true rfl) dX8_takeNumber_58 (fun M5 => ?_)
          refine z_iload (pc := 61) hR 0 dX8_takeNumber_61 rfl ?_
          exact z_ireturn (pc := 63) hR rfl rfl dX8_takeNumber_63 rfl
        · refine z_pick (pc := 50) (lv' := [(0, 2, 2), (1, 0, a1)]) hR [1, 2] rfl ?_
          exact hj50 ()
  refine z_icmpeq (pc := 7) (tgt := 22) hR dX8_takeNumber_7 (by decide) ?_ ?_
  · refine z_pick (pc := 22) (lv' := [(0, 2, 2), (1, 0, a1), (2, 0, a2), (3, 0, r1)]) hR [1, 2, 3, 0] rfl ?_
    exact hj22 ()
  · refine z_iload_n (pc := 10) hR 0 dX8_takeNumber_10 rfl rfl ?_
    refine z_iconst (pc := 11) hR dX8_takeNumber_11 rfl ?_
    refine z_icmpeq (pc := 12) (tgt := 22) hR dX8_takeNumber_12 (by decide) ?_ ?_
    · refine z_pick (pc := 22) (lv' := [(0, 2, 2), (1, 0, a1), (2, 0, a2), (3, 0, r1)]) hR [1, 2, 3, 0] rfl ?_
      exact hj22 ()
    · refine z_aload_n (pc := 15) hR 1 dX8_takeNumber_15 rfl rfl ?_
      refine z_iconst (pc := 16) hR dX8_takeNumber_16 rfl ?_
      refine z_callv0 (pc := 17) (rk' := 3) hR (As := [(0, 0)]) (st := []) jm_X8_fail jl_RX8_76 kxo_2 (by decide) rfl (c_To_fail N 0 M) rfl (by decide) (by decide) rfl (Nat.le_of_ble_eq_true rfl) dX8_takeNumber_17 (fun M6 => ?_)
      refine z_iload_n (pc := 20) hR 2 dX8_takeNumber_20 rfl rfl ?_
      exact z_ireturn (pc := 21) hR rfl rfl dX8_takeNumber_21 rfl
theorem dX4_readKin_0 : decode cX4_readKin 0 = .ok (.aload_n 1, 1) := by decide +kernel
theorem dX4_readKin_1 : decode cX4_readKin 1 = .ok (.iconst 0, 1) := by decide +kernel
theorem dX4_readKin_2 : decode cX4_readKin 2 = .ok (.aload_n 0, 1) := by decide +kernel
theorem dX4_readKin_3 : decode cX4_readKin 3 = .ok (.getfield 27, 3) := by decide +kernel
theorem dX4_readKin_6 : decode cX4_readKin 6 = .ok (.iconst 1, 1) := by decide +kernel
theorem dX4_readKin_7 : decode cX4_readKin 7 = .ok (.isub, 1) := by decide +kernel
theorem dX4_readKin_8 : decode cX4_readKin 8 = .ok (.invokevirtual 70, 3) := by decide +kernel
theorem dX4_readKin_11 : decode cX4_readKin 11 = .ok (.istore_n 2, 1) := by decide +kernel
theorem dX4_readKin_12 : decode cX4_readKin 12 = .ok (.aload_n 1, 1) := by decide +kernel
theorem dX4_readKin_13 : decode cX4_readKin 13 = .ok (.invokevirtual 59, 3) := by decide +kernel
theorem dX4_readKin_16 : decode cX4_readKin 16 = .ok (.iconst 1, 1) := by decide +kernel
theorem dX4_readKin_17 : decode cX4_readKin 17 = .ok (.if_icmp .ne 21, 3) := by decide +kernel
theorem dX4_readKin_20 : decode cX4_readKin 20 = .ok (.aload_n 1, 1) := by decide +kernel
theorem dX4_readKin_21 : decode cX4_readKin 21 = .ok (.getfield 78, 3) := by decide +kernel
theorem dX4_readKin_24 : decode cX4_readKin 24 = .ok (.aload_n 1, 1) := by decide +kernel
theorem dX4_readKin_25 : decode cX4_readKin 25 = .ok (.getfield 81, 3) := by decide +kernel
theorem dX4_readKin_28 : decode cX4_readKin 28 = .ok (.iaload, 1) := by decide +kernel
theorem dX4_readKin_29 : decode cX4_readKin 29 = .ok (.iload_n 2, 1) := by decide +kernel
theorem dX4_readKin_30 : decode cX4_readKin 30 = .ok (.if_icmp .ne 8, 3) := by decide +kernel
theorem dX4_readKin_33 : decode cX4_readKin 33 = .ok (.aload_n 1, 1) := by decide +kernel
theorem dX4_readKin_34 : decode cX4_readKin 34 = .ok (.iconst 1, 1) := by decide +kernel
theorem dX4_readKin_35 : decode cX4_readKin 35 = .ok (.invokevirtual 63, 3) := by decide +kernel
theorem dX4_readKin_38 : decode cX4_readKin 38 = .ok (.aload_n 1, 1) := by decide +kernel
theorem dX4_readKin_39 : decode cX4_readKin 39 = .ok (.iconst 0, 1) := by decide +kernel
theorem dX4_readKin_40 : decode cX4_readKin 40 = .ok (.aload_n 0, 1) := by decide +kernel
theorem dX4_readKin_41 : decode cX4_readKin 41 = .ok (.getfield 27, 3) := by decide +kernel
theorem dX4_readKin_44 : decode cX4_readKin 44 = .ok (.iconst 1, 1) := by decide +kernel
theorem dX4_readKin_45 : decode cX4_readKin 45 = .ok (.isub, 1) := by decide +kernel
theorem dX4_readKin_46 : decode cX4_readKin 46 = .ok (.invokevirtual 70, 3) := by decide +kernel
theorem dX4_readKin_49 : decode cX4_readKin 49 = .ok (.istore_n 3, 1) := by decide +kernel
theorem dX4_readKin_50 : decode cX4_readKin 50 = .ok (.aload_n 0, 1) := by decide +kernel
theorem dX4_readKin_51 : decode cX4_readKin 51 = .ok (.getfield 24, 3) := by decide +kernel
theorem dX4_readKin_54 : decode cX4_readKin 54 = .ok (.iload_n 2, 1) := by decide +kernel
theorem dX4_readKin_55 : decode cX4_readKin 55 = .ok (.dup2, 1) := by decide +kernel
theorem dX4_readKin_56 : decode cX4_readKin 56 = .ok (.iaload, 1) := by decide +kernel
theorem dX4_readKin_57 : decode cX4_readKin 57 = .ok (.iconst 1, 1) := by decide +kernel
theorem dX4_readKin_58 : decode cX4_readKin 58 = .ok (.iload_n 3, 1) := by decide +kernel
theorem dX4_readKin_59 : decode cX4_readKin 59 = .ok (.ishl, 1) := by decide +kernel
theorem dX4_readKin_60 : decode cX4_readKin 60 = .ok (.ior, 1) := by decide +kernel
theorem dX4_readKin_61 : decode cX4_readKin 61 = .ok (.iastore, 1) := by decide +kernel
theorem dX4_readKin_62 : decode cX4_readKin 62 = .ok (.aload_n 0, 1) := by decide +kernel
theorem dX4_readKin_63 : decode cX4_readKin 63 = .ok (.getfield 24, 3) := by decide +kernel
theorem dX4_readKin_66 : decode cX4_readKin 66 = .ok (.iload_n 3, 1) := by decide +kernel
theorem dX4_readKin_67 : decode cX4_readKin 67 = .ok (.dup2, 1) := by decide +kernel
theorem dX4_readKin_68 : decode cX4_readKin 68 = .ok (.iaload, 1) := by decide +kernel
theorem dX4_readKin_69 : decode cX4_readKin 69 = .ok (.iconst 1, 1) := by decide +kernel
theorem dX4_readKin_70 : decode cX4_readKin 70 = .ok (.iload_n 2, 1) := by decide +kernel
theorem dX4_readKin_71 : decode cX4_readKin 71 = .ok (.ishl, 1) := by decide +kernel
theorem dX4_readKin_72 : decode cX4_readKin 72 = .ok (.ior, 1) := by decide +kernel
theorem dX4_readKin_73 : decode cX4_readKin 73 = .ok (.iastore, 1) := by decide +kernel
theorem dX4_readKin_74 : decode cX4_readKin 74 = .ok (.return_, 1) := by decide +kernel
def Pa_readKin (N : Nat) (q : Int) (M : jMem) : Option (Int × jMem) := jb1 (To_takeNumber N 0 ((w32 (((M q 0)) - 1))) M) fun r1 M2 => (To_looked N M2).bind fun r3 => jlt (fun (M4 : jMem) => jb1 (To_takeNumber N 0 ((w32 (((M4 q 0)) - 1))) M4) fun r5 M6 => jchk (0 ≤ r1 ∧ r1 < 7) <| jchk (0 ≤ r1 ∧ r1 < 7) <| jlt (up M6 ((q + 5)) r1 ((jor ((M6 ((q + 5)) r1)) ((jshl 1 r5))))) fun M9 => jchk (0 ≤ r5 ∧ r5 < 7) <| jchk (0 ≤ r5 ∧ r5 < 7) <| jlt (up M9 ((q + 5)) r5 ((jor ((M9 ((q + 5)) r5)) ((jshl 1 r1))))) fun M12 => some (0, M12)) fun j38 => (if r3 = 1 then jchk (0 ≤ (M2 2 3) ∧ (M2 2 3) < 401) <| (if (M2 5 ((M2 2 3))) = r1 then jbv (To_fail N 1 M2) fun M14 => j38 M14 else j38 M2) else j38 M2)
theorem c_Pa_readKin {l : Launch} {g : jG} (N : Nat) (q : Int) (M : jMem) (hq : jk jTX q 4) : ∀ o, Pa_readKin N q M = some o → jCt l g jTX yX4_readKin cX4_readKin 4 none 3 5 [(2, q), (2, 2)] M o := by
  refine jMet (own := RX4) (em := id) (L := [(0, 2, q), (1, 2, 2)]) (by decide +kernel) rfl (Nat.le_of_ble_eq_true rfl) rfl (fun K hR => ?_)
  unfold Pa_readKin
  refine z_aload_n (pc := 0) hR 1 dX4_readKin_0 rfl rfl ?_
  refine z_iconst (pc := 1) hR dX4_readKin_1 rfl ?_
  refine z_aload_n (pc := 2) hR 0 dX4_readKin_2 rfl rfl ?_
  refine z_geti (pc := 3) hR (j := 0) jf_RX4_27 hq (by decide) rfl rfl dX4_readKin_3 ?_
  refine z_iconst (pc := 6) hR dX4_readKin_6 rfl ?_
  refine z_isub (pc := 7) hR dX4_readKin_7 ?_
  refine z_callv1 (pc := 8) hR (As := [(0, 0), (0, (w32 (((M q 0)) - 1)))]) (st := []) jm_X8_takeNumber jl_RX4_70 kxo_2 (by decide) rfl (by decide) (c_To_takeNumber N 0 ((w32 (((M q 0)) - 1))) M) rfl (by decide) (by decide) rfl (Nat.le_of_ble_eq_true rfl) dX4_readKin_8 (fun r1 M2 => ?_)
  refine z_istore_n (pc := 11) hR (lv' := [(2, 0, r1), (0, 2, q), (1, 2, 2)]) dX4_readKin_11 rfl (by decide) rfl ?_
  refine z_aload_n (pc := 12) hR 2 dX4_readKin_12 rfl rfl ?_
  refine z_callvp (pc := 13) hR (As := []) (st := []) jm_X8_looked jl_RX4_59 kxo_2 (by decide) rfl (by decide) (c_To_looked N M2) rfl (by decide) (by decide) rfl (Nat.le_of_ble_eq_true rfl) dX4_readKin_13 (fun r3 => ?_)
  refine z_iconst (pc := 16) hR dX4_readKin_16 rfl ?_
  refine z_join (P := fun j => ∀ (M4 : jMem), jZ K id 38 [(0, 2, q), (1, 2, 2), (2, 0, r1)] [] M4 (j M4)) (fun M4 => ?_) (fun j38 hj38 => ?_)
  · refine z_aload_n (pc := 38) hR 1 dX4_readKin_38 rfl rfl ?_
    refine z_iconst (pc := 39) hR dX4_readKin_39 rfl ?_
    refine z_aload_n (pc := 40) hR 0 dX4_readKin_40 rfl rfl ?_
    refine z_geti (pc := 41) hR (j := 0) jf_RX4_27 hq (by decide) rfl rfl dX4_readKin_41 ?_
    refine z_iconst (pc := 44) hR dX4_readKin_44 rfl ?_
    refine z_isub (pc := 45) hR dX4_readKin_45 ?_
    refine z_callv1 (pc := 46) hR (As := [(0, 0), (0, (w32 (((M4 q 0)) - 1)))]) (st := []) jm_X8_takeNumber jl_RX4_70 kxo_2 (by decide) rfl (by decide) (c_To_takeNumber N 0 ((w32 (((M4 q 0)) - 1))) M4) rfl (by decide) (by decide) rfl (Nat.le_of_ble_eq_true rfl) dX4_readKin_46 (fun r5 M6 => ?_)
    refine z_istore_n (pc := 49) hR (lv' := [(3, 0, r5), (0, 2, q), (1, 2, 2), (2, 0, r1)]) dX4_readKin_49 rfl (by decide) rfl ?_
    refine z_aload_n (pc := 50) hR 1 dX4_readKin_50 rfl rfl ?_
    refine z_getr (pc := 51) hR (c0 := 5) (r := (q + 5)) jf_RX4_24 hq (by decide) rfl rfl dX4_readKin_51 ?_
    refine z_iload_n (pc := 54) hR 3 dX4_readKin_54 rfl rfl ?_
    refine z_dup2 (pc := 55) hR dX4_readKin_55 (by decide) (by decide) ?_
    refine z_chk (fun hc7 => ?_)
    refine z_iald (pc := 56) hR (n := 7) (kf_4_kin hq) hc7.1 hc7.2 dX4_readKin_56 ?_
    refine z_iconst (pc := 57) hR dX4_readKin_57 rfl ?_
    refine z_iload_n (pc := 58) hR 0 dX4_readKin_58 rfl rfl ?_
    refine z_ishl (pc := 59) hR dX4_readKin_59 ?_
    refine z_ior (pc := 60) hR dX4_readKin_60 ?_
    refine z_chk (fun hc8 => ?_)
    refine z_iast (pc := 61) hR (n := 7) (kf_4_kin hq) hc8.1 hc8.2 dX4_readKin_61 (fun M9 => ?_)
    refine z_aload_n (pc := 62) hR 1 dX4_readKin_62 rfl rfl ?_
    refine z_getr (pc := 63) hR (c0 := 5) (r := (q + 5)) jf_RX4_24 hq (by decide) rfl rfl dX4_readKin_63 ?_
    refine z_iload_n (pc := 66) hR 0 dX4_readKin_66 rfl rfl ?_
    refine z_dup2 (pc := 67) hR dX4_readKin_67 (by decide) (by decide) ?_
    refine z_chk (fun hc10 => ?_)
    refine z_iald (pc := 68) hR (n := 7) (kf_4_kin hq) hc10.1 hc10.2 dX4_readKin_68 ?_
    refine z_iconst (pc := 69) hR dX4_readKin_69 rfl ?_
    refine z_iload_n (pc := 70) hR 3 dX4_readKin_70 rfl rfl ?_
    refine z_ishl (pc := 71) hR dX4_readKin_71 ?_
    refine z_ior (pc := 72) hR dX4_readKin_72 ?_
    refine z_chk (fun hc11 => ?_)
    refine z_iast (pc := 73) hR (n := 7) (kf_4_kin hq) hc11.1 hc11.2 dX4_readKin_73 (fun M12 => ?_)
    exact z_return (x := 0) (pc := 74) hR rfl rfl dX4_readKin_74 rfl
  refine z_icmpne (pc := 17) (tgt := 38) hR dX4_readKin_17 (by decide) ?_ ?_
  · refine z_pick (pc := 38) (lv' := [(0, 2, q), (1, 2, 2), (2, 0, r1)]) hR [1, 2, 0] rfl ?_
    exact hj38 M2
  · refine z_aload_n (pc := 20) hR 2 dX4_readKin_20 rfl rfl ?_
    refine z_getr (pc := 21) hR (c0 := 3) (r := 5) jf_RX4_78 kxo_2 (by decide) rfl rfl dX4_readKin_21 ?_
    refine z_aload_n (pc := 24) hR 2 dX4_readKin_24 rfl rfl ?_
    refine z_geti (pc := 25) hR (j := 3) jf_RX4_81 kxo_2 (by decide) rfl rfl dX4_readKin_25 ?_
    refine z_chk (fun hc13 => ?_)
    refine z_iald (pc := 28) hR (n := 401) kxa_5 hc13.1 hc13.2 dX4_readKin_28 ?_
    refine z_iload_n (pc := 29) hR 0 dX4_readKin_29 rfl rfl ?_
    refine z_icmpne (pc := 30) (tgt := 38) hR dX4_readKin_30 (by decide) ?_ ?_
    · refine z_pick (pc := 38) (lv' := [(0, 2, q), (1, 2, 2), (2, 0, r1)]) hR [1, 2, 0] rfl ?_
      exact hj38 M2
    · refine z_aload_n (pc := 33) hR 2 dX4_readKin_33 rfl rfl ?_
      refine z_iconst (pc := 34) hR dX4_readKin_34 rfl ?_
      refine z_callv0 (pc := 35) (rk' := 3) hR (As := [(0, 1)]) (st := []) jm_X8_fail jl_RX4_63 kxo_2 (by decide) rfl (c_To_fail N 1 M2) rfl (by decide) (by decide) rfl (Nat.le_of_ble_eq_true rfl) dX4_readKin_35 (fun M14 => ?_)
      refine z_pick (pc := 38) (lv' := [(0, 2, q), (1, 2, 2), (2, 0, r1)]) hR [1, 2, 0] rfl ?_
      exact hj38 M14
theorem dX4_readClause_0 : decode cX4_readClause 0 = .ok (.aload_n 1, 1) := by decide +kernel
theorem dX4_readClause_1 : decode cX4_readClause 1 = .ok (.invokevirtual 59, 3) := by decide +kernel
theorem dX4_readClause_4 : decode cX4_readClause 4 = .ok (.istore_n 3, 1) := by decide +kernel
theorem dX4_readClause_5 : decode cX4_readClause 5 = .ok (.iload_n 3, 1) := by decide +kernel
theorem dX4_readClause_6 : decode cX4_readClause 6 = .ok (.bipush 17, 2) := by decide +kernel
theorem dX4_readClause_8 : decode cX4_readClause 8 = .ok (.if_icmp .lt 9, 3) := by decide +kernel
theorem dX4_readClause_11 : decode cX4_readClause 11 = .ok (.iload_n 3, 1) := by decide +kernel
theorem dX4_readClause_12 : decode cX4_readClause 12 = .ok (.bipush 20, 2) := by decide +kernel
theorem dX4_readClause_14 : decode cX4_readClause 14 = .ok (.if_icmp .le 9, 3) := by decide +kernel
theorem dX4_readClause_17 : decode cX4_readClause 17 = .ok (.aload_n 1, 1) := by decide +kernel
theorem dX4_readClause_18 : decode cX4_readClause 18 = .ok (.iconst 0, 1) := by decide +kernel
theorem dX4_readClause_19 : decode cX4_readClause 19 = .ok (.invokevirtual 63, 3) := by decide +kernel
theorem dX4_readClause_22 : decode cX4_readClause 22 = .ok (.return_, 1) := by decide +kernel
theorem dX4_readClause_23 : decode cX4_readClause 23 = .ok (.iload_n 2, 1) := by decide +kernel
theorem dX4_readClause_24 : decode cX4_readClause 24 = .ok (.ifCond .ne 7, 3) := by decide +kernel
theorem dX4_readClause_27 : decode cX4_readClause 27 = .ok (.iconst 1, 1) := by decide +kernel
theorem dX4_readClause_28 : decode cX4_readClause 28 = .ok (.goto 4, 3) := by decide +kernel
theorem dX4_readClause_31 : decode cX4_readClause 31 = .ok (.iconst 0, 1) := by decide +kernel
theorem dX4_readClause_32 : decode cX4_readClause 32 = .ok (.istore 4, 2) := by decide +kernel
theorem dX4_readClause_34 : decode cX4_readClause 34 = .ok (.iload_n 2, 1) := by decide +kernel
theorem dX4_readClause_35 : decode cX4_readClause 35 = .ok (.bipush 40, 2) := by decide +kernel
theorem dX4_readClause_37 : decode cX4_readClause 37 = .ok (.if_icmp .ge 19, 3) := by decide +kernel
theorem dX4_readClause_40 : decode cX4_readClause 40 = .ok (.iload 4, 2) := by decide +kernel
theorem dX4_readClause_42 : decode cX4_readClause 42 = .ok (.iload_n 3, 1) := by decide +kernel
theorem dX4_readClause_43 : decode cX4_readClause 43 = .ok (.bipush 17, 2) := by decide +kernel
theorem dX4_readClause_45 : decode cX4_readClause 45 = .ok (.if_icmp .ne 7, 3) := by decide +kernel
theorem dX4_readClause_48 : decode cX4_readClause 48 = .ok (.iconst 1, 1) := by decide +kernel
theorem dX4_readClause_49 : decode cX4_readClause 49 = .ok (.goto 4, 3) := by decide +kernel
theorem dX4_readClause_52 : decode cX4_readClause 52 = .ok (.iconst 0, 1) := by decide +kernel
theorem dX4_readClause_53 : decode cX4_readClause 53 = .ok (.if_icmp .eq 9, 3) := by decide +kernel
theorem dX4_readClause_56 : decode cX4_readClause 56 = .ok (.aload_n 1, 1) := by decide +kernel
theorem dX4_readClause_57 : decode cX4_readClause 57 = .ok (.iconst 4, 1) := by decide +kernel
theorem dX4_readClause_58 : decode cX4_readClause 58 = .ok (.invokevirtual 63, 3) := by decide +kernel
theorem dX4_readClause_61 : decode cX4_readClause 61 = .ok (.return_, 1) := by decide +kernel
theorem dX4_readClause_62 : decode cX4_readClause 62 = .ok (.aload_n 1, 1) := by decide +kernel
theorem dX4_readClause_63 : decode cX4_readClause 63 = .ok (.invokevirtual 67, 3) := by decide +kernel
theorem dX4_readClause_66 : decode cX4_readClause 66 = .ok (.iload_n 3, 1) := by decide +kernel
theorem dX4_readClause_67 : decode cX4_readClause 67 = .ok (.bipush 17, 2) := by decide +kernel
theorem dX4_readClause_69 : decode cX4_readClause 69 = .ok (.if_icmp .ne 28, 3) := by decide +kernel
theorem dX4_readClause_72 : decode cX4_readClause 72 = .ok (.aload_n 0, 1) := by decide +kernel
theorem dX4_readClause_73 : decode cX4_readClause 73 = .ok (.aload_n 1, 1) := by decide +kernel
theorem dX4_readClause_74 : decode cX4_readClause 74 = .ok (.iconst 2, 1) := by decide +kernel
theorem dX4_readClause_75 : decode cX4_readClause 75 = .ok (.bipush 7, 2) := by decide +kernel
theorem dX4_readClause_77 : decode cX4_readClause 77 = .ok (.invokevirtual 70, 3) := by decide +kernel
theorem dX4_readClause_80 : decode cX4_readClause 80 = .ok (.putfield 27, 3) := by decide +kernel
theorem dX4_readClause_83 : decode cX4_readClause 83 = .ok (.aload_n 0, 1) := by decide +kernel
theorem dX4_readClause_84 : decode cX4_readClause 84 = .ok (.aload_n 1, 1) := by decide +kernel
theorem dX4_readClause_85 : decode cX4_readClause 85 = .ok (.iconst 0, 1) := by decide +kernel
theorem dX4_readClause_86 : decode cX4_readClause 86 = .ok (.bipush 9, 2) := by decide +kernel
theorem dX4_readClause_88 : decode cX4_readClause 88 = .ok (.invokevirtual 70, 3) := by decide +kernel
theorem dX4_readClause_91 : decode cX4_readClause 91 = .ok (.putfield 31, 3) := by decide +kernel
theorem dX4_readClause_94 : decode cX4_readClause 94 = .ok (.goto 107, 3) := by decide +kernel
theorem dX4_readClause_97 : decode cX4_readClause 97 = .ok (.iload_n 3, 1) := by decide +kernel
theorem dX4_readClause_98 : decode cX4_readClause 98 = .ok (.bipush 18, 2) := by decide +kernel
theorem dX4_readClause_100 : decode cX4_readClause 100 = .ok (.if_icmp .ne 47, 3) := by decide +kernel
theorem dX4_readClause_103 : decode cX4_readClause 103 = .ok (.aload_n 1, 1) := by decide +kernel
theorem dX4_readClause_104 : decode cX4_readClause 104 = .ok (.iconst 0, 1) := by decide +kernel
theorem dX4_readClause_105 : decode cX4_readClause 105 = .ok (.aload_n 0, 1) := by decide +kernel
theorem dX4_readClause_106 : decode cX4_readClause 106 = .ok (.getfield 27, 3) := by decide +kernel
theorem dX4_readClause_109 : decode cX4_readClause 109 = .ok (.iconst 1, 1) := by decide +kernel
theorem dX4_readClause_110 : decode cX4_readClause 110 = .ok (.isub, 1) := by decide +kernel
theorem dX4_readClause_111 : decode cX4_readClause 111 = .ok (.invokevirtual 70, 3) := by decide +kernel
theorem dX4_readClause_114 : decode cX4_readClause 114 = .ok (.istore 5, 2) := by decide +kernel
theorem dX4_readClause_116 : decode cX4_readClause 116 = .ok (.aload_n 0, 1) := by decide +kernel
theorem dX4_readClause_117 : decode cX4_readClause 117 = .ok (.getfield 9, 3) := by decide +kernel
theorem dX4_readClause_120 : decode cX4_readClause 120 = .ok (.iload 5, 2) := by decide +kernel
theorem dX4_readClause_122 : decode cX4_readClause 122 = .ok (.aload_n 1, 1) := by decide +kernel
theorem dX4_readClause_123 : decode cX4_readClause 123 = .ok (.iconst 1, 1) := by decide +kernel
theorem dX4_readClause_124 : decode cX4_readClause 124 = .ok (.bipush 30, 2) := by decide +kernel
theorem dX4_readClause_126 : decode cX4_readClause 126 = .ok (.invokevirtual 70, 3) := by decide +kernel
theorem dX4_readClause_129 : decode cX4_readClause 129 = .ok (.iastore, 1) := by decide +kernel
theorem dX4_readClause_130 : decode cX4_readClause 130 = .ok (.aload_n 0, 1) := by decide +kernel
theorem dX4_readClause_131 : decode cX4_readClause 131 = .ok (.getfield 15, 3) := by decide +kernel
theorem dX4_readClause_134 : decode cX4_readClause 134 = .ok (.iload 5, 2) := by decide +kernel
theorem dX4_readClause_136 : decode cX4_readClause 136 = .ok (.aload_n 1, 1) := by decide +kernel
theorem dX4_readClause_137 : decode cX4_readClause 137 = .ok (.iconst 0, 1) := by decide +kernel
theorem dX4_readClause_138 : decode cX4_readClause 138 = .ok (.bipush 60, 2) := by decide +kernel
theorem dX4_readClause_140 : decode cX4_readClause 140 = .ok (.invokevirtual 70, 3) := by decide +kernel
theorem dX4_readClause_143 : decode cX4_readClause 143 = .ok (.iastore, 1) := by decide +kernel
theorem dX4_readClause_144 : decode cX4_readClause 144 = .ok (.goto 57, 3) := by decide +kernel
theorem dX4_readClause_147 : decode cX4_readClause 147 = .ok (.iload_n 3, 1) := by decide +kernel
theorem dX4_readClause_148 : decode cX4_readClause 148 = .ok (.bipush 19, 2) := by decide +kernel
theorem dX4_readClause_150 : decode cX4_readClause 150 = .ok (.if_icmp .ne 46, 3) := by decide +kernel
theorem dX4_readClause_153 : decode cX4_readClause 153 = .ok (.aload_n 1, 1) := by decide +kernel
theorem dX4_readClause_154 : decode cX4_readClause 154 = .ok (.iconst 0, 1) := by decide +kernel
theorem dX4_readClause_155 : decode cX4_readClause 155 = .ok (.aload_n 0, 1) := by decide +kernel
theorem dX4_readClause_156 : decode cX4_readClause 156 = .ok (.getfield 27, 3) := by decide +kernel
theorem dX4_readClause_159 : decode cX4_readClause 159 = .ok (.iconst 1, 1) := by decide +kernel
theorem dX4_readClause_160 : decode cX4_readClause 160 = .ok (.isub, 1) := by decide +kernel
theorem dX4_readClause_161 : decode cX4_readClause 161 = .ok (.invokevirtual 70, 3) := by decide +kernel
theorem dX4_readClause_164 : decode cX4_readClause 164 = .ok (.istore 5, 2) := by decide +kernel
theorem dX4_readClause_166 : decode cX4_readClause 166 = .ok (.aload_n 0, 1) := by decide +kernel
theorem dX4_readClause_167 : decode cX4_readClause 167 = .ok (.getfield 18, 3) := by decide +kernel
theorem dX4_readClause_170 : decode cX4_readClause 170 = .ok (.iload 5, 2) := by decide +kernel
theorem dX4_readClause_172 : decode cX4_readClause 172 = .ok (.aload_n 1, 1) := by decide +kernel
theorem dX4_readClause_173 : decode cX4_readClause 173 = .ok (.iconst 0, 1) := by decide +kernel
theorem dX4_readClause_174 : decode cX4_readClause 174 = .ok (.iconst 5, 1) := by decide +kernel
theorem dX4_readClause_175 : decode cX4_readClause 175 = .ok (.invokevirtual 70, 3) := by decide +kernel
theorem dX4_readClause_178 : decode cX4_readClause 178 = .ok (.iastore, 1) := by decide +kernel
theorem dX4_readClause_179 : decode cX4_readClause 179 = .ok (.aload_n 0, 1) := by decide +kernel
theorem dX4_readClause_180 : decode cX4_readClause 180 = .ok (.getfield 21, 3) := by decide +kernel
theorem dX4_readClause_183 : decode cX4_readClause 183 = .ok (.iload 5, 2) := by decide +kernel
theorem dX4_readClause_185 : decode cX4_readClause 185 = .ok (.aload_n 1, 1) := by decide +kernel
theorem dX4_readClause_186 : decode cX4_readClause 186 = .ok (.iconst 0, 1) := by decide +kernel
theorem dX4_readClause_187 : decode cX4_readClause 187 = .ok (.bipush 9, 2) := by decide +kernel
theorem dX4_readClause_189 : decode cX4_readClause 189 = .ok (.invokevirtual 70, 3) := by decide +kernel
theorem dX4_readClause_192 : decode cX4_readClause 192 = .ok (.iastore, 1) := by decide +kernel
theorem dX4_readClause_193 : decode cX4_readClause 193 = .ok (.goto 8, 3) := by decide +kernel
theorem dX4_readClause_196 : decode cX4_readClause 196 = .ok (.aload_n 0, 1) := by decide +kernel
theorem dX4_readClause_197 : decode cX4_readClause 197 = .ok (.aload_n 1, 1) := by decide +kernel
theorem dX4_readClause_198 : decode cX4_readClause 198 = .ok (.invokevirtual 74, 3) := by decide +kernel
theorem dX4_readClause_201 : decode cX4_readClause 201 = .ok (.return_, 1) := by decide +kernel
def Pa_readClause (N : Nat) (q a2 : Int) (M : jMem) : Option (Int × jMem) := (To_looked N M).bind fun r1 => jlt (fun (_ : Unit) => jbv (To_fail N 0 M) fun M2 => some (0, M2)) fun j17 => (if r1 < 17 then j17 () else (if 20 < r1 then j17 () else jlt (fun (u3 : Int) => jlt (fun (_ : Unit) => jbv (To_fail N 4 M) fun M4 => some (0, M4)) fun j56 => (if a2 < 40 then jlt (fun (u5 : Int) => (if u3 = u5 then jbv (To_move N M) fun M6 => (if r1 = 17 then jb1 (To_takeNumber N 2 7 M6) fun r28 M29 => jlt (up M29 q 0 r28) fun M30 => jb1 (To_takeNumber N 0 9 M30) fun r31 M32 => jlt (up M32 q 1 r31) fun M33 => some (0, M33) else (if r1 = 18 then jb1 (To_takeNumber N 0 ((w32 (((M6 q 0)) - 1))) M6) fun r18 M19 => jb1 (To_takeNumber N 1 30 M19) fun r20 M21 => jchk (0 ≤ r18 ∧ r18 < 7) <| jlt (up M21 ((q + 1)) r18 r20) fun M23 => jb1 (To_takeNumber N 0 60 M23) fun r24 M25 => jchk (0 ≤ r18 ∧ r18 < 7) <| jlt (up M25 ((q + 2)) r18 r24) fun M27 => some (0, M27) else (if r1 = 19 then jb1 (To_takeNumber N 0 ((w32 (((M6 q 0)) - 1))) M6) fun r8 M9 => jb1 (To_takeNumber N 0 5 M9) fun r10 M11 => jchk (0 ≤ r8 ∧ r8 < 7) <| jlt (up M11 ((q + 3)) r8 r10) fun M13 => jb1 (To_takeNumber N 0 9 M13) fun r14 M15 => jchk (0 ≤ r8 ∧ r8 < 7) <| jlt (up M15 ((q + 4)) r8 r14) fun M17 => some (0, M17) else jbv (Pa_readKin N q M6) fun M7 => some (0, M7)))) else j56 ())) fun j53 => (if r1 = 17 then j53 1 else j53 0) else j56 ())) fun j32 => (if a2 = 0 then j32 1 else j32 0)))
theorem c_Pa_readClause {l : Launch} {g : jG} (N : Nat) (q a2 : Int) (M : jMem) (hq : jk jTX q 4) : ∀ o, Pa_readClause N q a2 M = some o → jCt l g jTX yX4_readClause cX4_readClause 6 none 3 7 [(2, q), (2, 2), (0, a2)] M o := by
  refine jMet (own := RX4) (em := id) (L := [(0, 2, q), (1, 2, 2), (2, 0, a2)]) (by decide +kernel) rfl (Nat.le_of_ble_eq_true rfl) rfl (fun K hR => ?_)
  unfold Pa_readClause
  refine z_aload_n (pc := 0) hR 1 dX4_readClause_0 rfl rfl ?_
  refine z_callvp (pc := 1) hR (As := []) (st := []) jm_X8_looked jl_RX4_59 kxo_2 (by decide) rfl (by decide) (c_To_looked N M) rfl (by decide) (by decide) rfl (Nat.le_of_ble_eq_true rfl) dX4_readClause_1 (fun r1 => ?_)
  refine z_istore_n (pc := 4) hR (lv' := [(3, 0, r1), (0, 2, q), (1, 2, 2), (2, 0, a2)]) dX4_readClause_4 rfl (by decide) rfl ?_
  refine z_iload_n (pc := 5) hR 0 dX4_readClause_5 rfl rfl ?_
  refine z_bipush (pc := 6) hR dX4_readClause_6 rfl ?_
  refine z_join (P := fun j => ∀ (_ : Unit), jZ K id 17 [(1, 2, 2)] [] M (j ())) (fun _ => ?_) (fun j17 hj17 => ?_)
  · refine z_aload_n (pc := 17) hR 0 dX4_readClause_17 rfl rfl ?_
    refine z_iconst (pc := 18) hR dX4_readClause_18 rfl ?_
    refine z_callv0 (pc := 19) (rk' := 3) hR (As := [(0, 0)]) (st := []) jm_X8_fail jl_RX4_63 kxo_2 (by decide) rfl (c_To_fail N 0 M) rfl (by decide) (by decide) rfl (Nat.le_of_ble_eq_true rfl) dX4_readClause_19 (fun M2 => ?_)
    exact z_return (x := 0) (pc := 22) hR rfl rfl dX4_readClause_22 rfl
  refine z_icmplt (pc := 8) (tgt := 17) hR dX4_readClause_8 (by decide) ?_ ?_
  · refine z_pick (pc := 17) (lv' := [(1, 2, 2)]) hR [2] rfl ?_
    exact hj17 ()
  · refine z_iload_n (pc := 11) hR 0 dX4_readClause_11 rfl rfl ?_
    refine z_bipush (pc := 12) hR dX4_readClause_12 rfl ?_
    refine z_icmple (pc := 14) (tgt := 23) hR dX4_readClause_14 (by decide) ?_ ?_
    · refine z_iload_n (pc := 23) hR 3 dX4_readClause_23 rfl rfl ?_
      refine z_join (P := fun j => ∀ (u3 : Int), jZ K id 32 [(0, 2, q), (1, 2, 2), (2, 0, a2), (3, 0, r1)] [(0, u3)] M (j u3)) (fun u3 => ?_) (fun j32 hj32 => ?_)
      · refine z_istore (pc := 32) hR (lv' := [(4, 0, u3), (0, 2, q), (1, 2, 2), (2, 0, a2), (3, 0, r1)]) dX4_readClause_32 (by decide) rfl ?_
        refine z_iload_n (pc := 34) hR 3 dX4_readClause_34 rfl rfl ?_
        refine z_bipush (pc := 35) hR dX4_readClause_35 rfl ?_
        refine z_join (P := fun j => ∀ (_ : Unit), jZ K id 56 [(1, 2, 2)] [] M (j ())) (fun _ => ?_) (fun j56 hj56 => ?_)
        · refine z_aload_n (pc := 56) hR 0 dX4_readClause_56 rfl rfl ?_
          refine z_iconst (pc := 57) hR dX4_readClause_57 rfl ?_
          refine z_callv0 (pc := 58) (rk' := 3) hR (As := [(0, 4)]) (st := []) jm_X8_fail jl_RX4_63 kxo_2 (by decide) rfl (c_To_fail N 4 M) rfl (by decide) (by decide) rfl (Nat.le_of_ble_eq_true rfl) dX4_readClause_58 (fun M4 => ?_)
          exact z_return (x := 0) (pc := 61) hR rfl rfl dX4_readClause_61 rfl
        refine z_icmpge (pc := 37) (tgt := 56) hR dX4_readClause_37 (by decide) ?_ ?_
        · refine z_pick (pc := 56) (lv' := [(1, 2, 2)]) hR [2] rfl ?_
          exact hj56 ()
        · refine z_iload (pc := 40) hR 0 dX4_readClause_40 rfl ?_
          refine z_iload_n (pc := 42) hR 4 dX4_readClause_42 rfl rfl ?_
          refine z_bipush (pc := 43) hR dX4_readClause_43 rfl ?_
          refine z_join (P := fun j => ∀ (u5 : Int), jZ K id 53 [(0, 2, q), (1, 2, 2), (3, 0, r1)] [(0, u5), (0, u3)] M (j u5)) (fun u5 => ?_) (fun j53 hj53 => ?_)
          · refine z_icmpeq (pc := 53) (tgt := 62) hR dX4_readClause_53 (by decide) ?_ ?_
            · refine z_aload_n (pc := 62) hR 1 dX4_readClause_62 rfl rfl ?_
              refine z_callv0 (pc := 63) (rk' := 3) hR (As := []) (st := []) jm_X8_move jl_RX4_67 kxo_2 (by decide) rfl (c_To_move N M) rfl (by decide) (by decide) rfl (Nat.le_of_ble_eq_true rfl) dX4_readClause_63 (fun M6 => ?_)
              refine z_iload_n (pc := 66) hR 2 dX4_readClause_66 rfl rfl ?_
              refine z_bipush (pc := 67) hR dX4_readClause_67 rfl ?_
              refine z_icmpne (pc := 69) (tgt := 97) hR dX4_readClause_69 (by decide) ?_ ?_
              · refine z_iload_n (pc := 97) hR 2 dX4_readClause_97 rfl rfl ?_
                refine z_bipush (pc := 98) hR dX4_readClause_98 rfl ?_
                refine z_icmpne (pc := 100) (tgt := 147) hR dX4_readClause_100 (by decide) ?_ ?_
                · refine z_iload_n (pc := 147) hR 2 dX4_readClause_147 rfl rfl ?_
                  refine z_bipush (pc := 148) hR dX4_readClause_148 rfl ?_
                  refine z_icmpne (pc := 150) (tgt := 196) hR dX4_readClause_150 (by decide) ?_ ?_
                  · refine z_aload_n (pc := 196) hR 0 dX4_readClause_196 rfl rfl ?_
                    refine z_aload_n (pc := 197) hR 1 dX4_readClause_197 rfl rfl ?_
                    refine z_callv0 (pc := 198) (rk' := 3) hR (As := [(2, 2)]) (st := []) jm_X4_readKin jl_RX4_74 hq (by decide) rfl (c_Pa_readKin N q M6 hq) rfl (by decide) (by decide) rfl (Nat.le_of_ble_eq_true rfl) dX4_readClause_198 (fun M7 => ?_)
                    exact z_return (x := 0) (pc := 201) hR rfl rfl dX4_readClause_201 rfl
                  · refine z_aload_n (pc := 153) hR 1 dX4_readClause_153 rfl rfl ?_
                    refine z_iconst (pc := 154) hR dX4_readClause_154 rfl ?_
                    refine z_aload_n (pc := 155) hR 0 dX4_readClause_155 rfl rfl ?_
                    refine z_geti (pc := 156) hR (j := 0) jf_RX4_27 hq (by decide) rfl rfl dX4_readClause_156 ?_
                    refine z_iconst (pc := 159) hR dX4_readClause_159 rfl ?_
                    refine z_isub (pc := 160) hR dX4_readClause_160 ?_
                    refine z_callv1 (pc := 161) hR (As := [(0, 0), (0, (w32 (((M6 q 0)) - 1)))]) (st := []) jm_X8_takeNumber jl_RX4_70 kxo_2 (by decide) rfl (by decide) (c_To_takeNumber N 0 ((w32 (((M6 q 0)) - 1))) M6) rfl (by decide) (by decide) rfl (Nat.le_of_ble_eq_true rfl) dX4_readClause_161 (fun r8 M9 => ?_)
                    refine z_istore (pc := 164) hR (lv' := [(5, 0, r8), (0, 2, q), (1, 2, 2), (3, 0, r1)]) dX4_readClause_164 (by decide) rfl ?_
                    refine z_aload_n (pc := 166) hR 1 dX4_readClause_166 rfl rfl ?_
                    refine z_getr (pc := 167) hR (c0 := 3) (r := (q + 3)) jf_RX4_18 hq (by decide) rfl rfl dX4_readClause_167 ?_
                    refine z_iload (pc := 170) hR 0 dX4_readClause_170 rfl ?_
                    refine z_aload_n (pc := 172) hR 2 dX4_readClause_172 rfl rfl ?_
                    refine z_iconst (pc := 173) hR dX4_readClause_173 rfl ?_
                    refine z_iconst (pc := 174) hR dX4_readClause_174 rfl ?_
                    refine z_callv1 (pc := 175) hR (As := [(0, 0), (0, 5)]) (st := [(0, r8), (2, (q + 3))]) jm_X8_takeNumber jl_RX4_70 kxo_2 (by decide) rfl (by decide) (c_To_takeNumber N 0 5 M9) rfl (by decide) (by decide) rfl (Nat.le_of_ble_eq_true rfl) dX4_readClause_175 (fun r10 M11 => ?_)
                    refine z_chk (fun hc12 => ?_)
                    refine z_iast (pc := 178) hR (n := 7) (kf_4_draws hq) hc12.1 hc12.2 dX4_readClause_178 (fun M13 => ?_)
                    refine z_aload_n (pc := 179) hR 1 dX4_readClause_179 rfl rfl ?_
                    refine z_getr (pc := 180) hR (c0 := 4) (r := (q + 4)) jf_RX4_21 hq (by decide) rfl rfl dX4_readClause_180 ?_
                    refine z_iload (pc := 183) hR 0 dX4_readClause_183 rfl ?_
                    refine z_aload_n (pc := 185) hR 2 dX4_readClause_185 rfl rfl ?_
                    refine z_iconst (pc := 186) hR dX4_readClause_186 rfl ?_
                    refine z_bipush (pc := 187) hR dX4_readClause_187 rfl ?_
                    refine z_callv1 (pc := 189) hR (As := [(0, 0), (0, 9)]) (st := [(0, r8), (2, (q + 4))]) jm_X8_takeNumber jl_RX4_70 kxo_2 (by decide) rfl (by decide) (c_To_takeNumber N 0 9 M13) rfl (by decide) (by decide) rfl (Nat.le_of_ble_eq_true rfl) dX4_readClause_189 (fun r14 M15 => ?_)
                    refine z_chk (fun hc16 => ?_)
                    refine z_iast (pc := 192) hR (n := 7) (kf_4_heirs hq) hc16.1 hc16.2 dX4_readClause_192 (fun M17 => ?_)
                    refine z_goto (pc := 193) (tgt := 201) hR dX4_readClause_193 (by decide) ?_
                    exact z_return (x := 0) (pc := 201) hR rfl rfl dX4_readClause_201 rfl
                · refine z_aload_n (pc := 103) hR 1 dX4_readClause_103 rfl rfl ?_
                  refine z_iconst (pc := 104) hR dX4_readClause_104 rfl ?_
                  refine z_aload_n (pc := 105) hR 0 dX4_readClause_105 rfl rfl ?_
                  refine z_geti (pc := 106) hR (j := 0) jf_RX4_27 hq (by decide) rfl rfl dX4_readClause_106 ?_
                  refine z_iconst (pc := 109) hR dX4_readClause_109 rfl ?_
                  refine z_isub (pc := 110) hR dX4_readClause_110 ?_
                  refine z_callv1 (pc := 111) hR (As := [(0, 0), (0, (w32 (((M6 q 0)) - 1)))]) (st := []) jm_X8_takeNumber jl_RX4_70 kxo_2 (by decide) rfl (by decide) (c_To_takeNumber N 0 ((w32 (((M6 q 0)) - 1))) M6) rfl (by decide) (by decide) rfl (Nat.le_of_ble_eq_true rfl) dX4_readClause_111 (fun r18 M19 => ?_)
                  refine z_istore (pc := 114) hR (lv' := [(5, 0, r18), (0, 2, q), (1, 2, 2), (3, 0, r1)]) dX4_readClause_114 (by decide) rfl ?_
                  refine z_aload_n (pc := 116) hR 1 dX4_readClause_116 rfl rfl ?_
                  refine z_getr (pc := 117) hR (c0 := 1) (r := (q + 1)) jf_RX4_9 hq (by decide) rfl rfl dX4_readClause_117 ?_
                  refine z_iload (pc := 120) hR 0 dX4_readClause_120 rfl ?_
                  refine z_aload_n (pc := 122) hR 2 dX4_readClause_122 rfl rfl ?_
                  refine z_iconst (pc := 123) hR dX4_readClause_123 rfl ?_
                  refine z_bipush (pc := 124) hR dX4_readClause_124 rfl ?_
                  refine z_callv1 (pc := 126) hR (As := [(0, 1), (0, 30)]) (st := [(0, r18), (2, (q + 1))]) jm_X8_takeNumber jl_RX4_70 kxo_2 (by decide) rfl (by decide) (c_To_takeNumber N 1 30 M19) rfl (by decide) (by decide) rfl (Nat.le_of_ble_eq_true rfl) dX4_readClause_126 (fun r20 M21 => ?_)
                  refine z_chk (fun hc22 => ?_)
                  refine z_iast (pc := 129) hR (n := 7) (kf_4_depth hq) hc22.1 hc22.2 dX4_readClause_129 (fun M23 => ?_)
                  refine z_aload_n (pc := 130) hR 1 dX4_readClause_130 rfl rfl ?_
                  refine z_getr (pc := 131) hR (c0 := 2) (r := (q + 2)) jf_RX4_15 hq (by decide) rfl rfl dX4_readClause_131 ?_
                  refine z_iload (pc := 134) hR 0 dX4_readClause_134 rfl ?_
                  refine z_aload_n (pc := 136) hR 2 dX4_readClause_136 rfl rfl ?_
                  refine z_iconst (pc := 137) hR dX4_readClause_137 rfl ?_
                  refine z_bipush (pc := 138) hR dX4_readClause_138 rfl ?_
                  refine z_callv1 (pc := 140) hR (As := [(0, 0), (0, 60)]) (st := [(0, r18), (2, (q + 2))]) jm_X8_takeNumber jl_RX4_70 kxo_2 (by decide) rfl (by decide) (c_To_takeNumber N 0 60 M23) rfl (by decide) (by decide) rfl (Nat.le_of_ble_eq_true rfl) dX4_readClause_140 (fun r24 M25 => ?_)
                  refine z_chk (fun hc26 => ?_)
                  refine z_iast (pc := 143) hR (n := 7) (kf_4_taste hq) hc26.1 hc26.2 dX4_readClause_143 (fun M27 => ?_)
                  refine z_goto (pc := 144) (tgt := 201) hR dX4_readClause_144 (by decide) ?_
                  exact z_return (x := 0) (pc := 201) hR rfl rfl dX4_readClause_201 rfl
              · refine z_aload_n (pc := 72) hR 0 dX4_readClause_72 rfl rfl ?_
                refine z_aload_n (pc := 73) hR 1 dX4_readClause_73 rfl rfl ?_
                refine z_iconst (pc := 74) hR dX4_readClause_74 rfl ?_
                refine z_bipush (pc := 75) hR dX4_readClause_75 rfl ?_
                refine z_callv1 (pc := 77) hR (As := [(0, 2), (0, 7)]) (st := [(2, q)]) jm_X8_takeNumber jl_RX4_70 kxo_2 (by decide) rfl (by decide) (c_To_takeNumber N 2 7 M6) rfl (by decide) (by decide) rfl (Nat.le_of_ble_eq_true rfl) dX4_readClause_77 (fun r28 M29 => ?_)
                refine z_puti (pc := 80) hR (j := 0) jp_RX4_27 hq (by decide) rfl rfl rfl rfl dX4_readClause_80 (fun M30 => ?_)
                refine z_aload_n (pc := 83) hR 0 dX4_readClause_83 rfl rfl ?_
                refine z_aload_n (pc := 84) hR 1 dX4_readClause_84 rfl rfl ?_
                refine z_iconst (pc := 85) hR dX4_readClause_85 rfl ?_
                refine z_bipush (pc := 86) hR dX4_readClause_86 rfl ?_
                refine z_callv1 (pc := 88) hR (As := [(0, 0), (0, 9)]) (st := [(2, q)]) jm_X8_takeNumber jl_RX4_70 kxo_2 (by decide) rfl (by decide) (c_To_takeNumber N 0 9 M30) rfl (by decide) (by decide) rfl (Nat.le_of_ble_eq_true rfl) dX4_readClause_88 (fun r31 M32 => ?_)
                refine z_puti (pc := 91) hR (j := 1) jp_RX4_31 hq (by decide) rfl rfl rfl rfl dX4_readClause_91 (fun M33 => ?_)
                refine z_goto (pc := 94) (tgt := 201) hR dX4_readClause_94 (by decide) ?_
                exact z_return (x := 0) (pc := 201) hR rfl rfl dX4_readClause_201 rfl
            · refine z_pick (pc := 56) (lv' := [(1, 2, 2)]) hR [1] rfl ?_
              exact hj56 ()
          refine z_icmpne (pc := 45) (tgt := 52) hR dX4_readClause_45 (by decide) ?_ ?_
          · refine z_iconst (pc := 52) hR dX4_readClause_52 rfl ?_
            refine z_pick (pc := 53) (lv' := [(0, 2, q), (1, 2, 2), (3, 0, r1)]) hR [1, 2, 4] rfl ?_
            exact hj53 0
          · refine z_iconst (pc := 48) hR dX4_readClause_48 rfl ?_
            refine z_goto (pc := 49) (tgt := 53) hR dX4_readClause_49 (by decide) ?_
            refine z_pick (pc := 53) (lv' := [(0, 2, q), (1, 2, 2), (3, 0, r1)]) hR [1, 2, 4] rfl ?_
            exact hj53 1
      refine z_ifne (pc := 24) (tgt := 31) hR dX4_readClause_24 (by decide) ?_ ?_
      · refine z_iconst (pc := 31) hR dX4_readClause_31 rfl ?_
        refine z_pick (pc := 32) (lv' := [(0, 2, q), (1, 2, 2), (2, 0, a2), (3, 0, r1)]) hR [1, 2, 3, 0] rfl ?_
        exact hj32 0
      · refine z_iconst (pc := 27) hR dX4_readClause_27 rfl ?_
        refine z_goto (pc := 28) (tgt := 32) hR dX4_readClause_28 (by decide) ?_
        refine z_pick (pc := 32) (lv' := [(0, 2, q), (1, 2, 2), (2, 0, a2), (3, 0, r1)]) hR [1, 2, 3, 0] rfl ?_
        exact hj32 1
    · refine z_pick (pc := 17) (lv' := [(1, 2, 2)]) hR [2] rfl ?_
      exact hj17 ()
theorem dX8_takes_0 : decode cX8_takes 0 = .ok (.aload_n 0, 1) := by decide +kernel
theorem dX8_takes_1 : decode cX8_takes 1 = .ok (.invokevirtual 70, 3) := by decide +kernel
theorem dX8_takes_4 : decode cX8_takes 4 = .ok (.iload_n 1, 1) := by decide +kernel
theorem dX8_takes_5 : decode cX8_takes 5 = .ok (.if_icmp .ne 7, 3) := by decide +kernel
theorem dX8_takes_8 : decode cX8_takes 8 = .ok (.iconst 1, 1) := by decide +kernel
theorem dX8_takes_9 : decode cX8_takes 9 = .ok (.goto 4, 3) := by decide +kernel
theorem dX8_takes_12 : decode cX8_takes 12 = .ok (.iconst 0, 1) := by decide +kernel
theorem dX8_takes_13 : decode cX8_takes 13 = .ok (.istore_n 2, 1) := by decide +kernel
theorem dX8_takes_14 : decode cX8_takes 14 = .ok (.iload_n 2, 1) := by decide +kernel
theorem dX8_takes_15 : decode cX8_takes 15 = .ok (.ifCond .eq 7, 3) := by decide +kernel
theorem dX8_takes_18 : decode cX8_takes 18 = .ok (.aload_n 0, 1) := by decide +kernel
theorem dX8_takes_19 : decode cX8_takes 19 = .ok (.invokevirtual 73, 3) := by decide +kernel
theorem dX8_takes_22 : decode cX8_takes 22 = .ok (.iload_n 2, 1) := by decide +kernel
theorem dX8_takes_23 : decode cX8_takes 23 = .ok (.ireturn, 1) := by decide +kernel
def To_takes (N : Nat) (a1 : Int) (M : jMem) : Option (Int × jMem) := (To_looked N M).bind fun r1 => jlt (fun (u2 : Int) => (if u2 = 0 then jchk (u2 = 0 ∨ u2 = 1) <| some (u2, M) else jbv (To_move N M) fun M4 => jchk (u2 = 0 ∨ u2 = 1) <| some (u2, M4))) fun j13 => (if r1 = a1 then j13 1 else j13 0)
theorem c_To_takes {l : Launch} {g : jG} (N : Nat) (a1 : Int) (M : jMem)  : ∀ o, To_takes N a1 M = some o → jCt l g jTX yX8_takes cX8_takes 3 (some .boolean) 0 3 [(2, 2), (0, a1)] M o := by
  refine jMet (own := RX8) (em := id) (L := [(0, 2, 2), (1, 0, a1)]) (by decide +kernel) rfl (Nat.le_of_ble_eq_true rfl) rfl (fun K hR => ?_)
  unfold To_takes
  refine z_aload_n (pc := 0) hR 0 dX8_takes_0 rfl rfl ?_
  refine z_callvp (pc := 1) hR (As := []) (st := []) jm_X8_looked jl_RX8_70 kxo_2 (by decide) rfl (by decide) (c_To_looked N M) rfl (by decide) (by decide) rfl (Nat.le_of_ble_eq_true rfl) dX8_takes_1 (fun r1 => ?_)
  refine z_iload_n (pc := 4) hR 1 dX8_takes_4 rfl rfl ?_
  refine z_join (P := fun j => ∀ (u2 : Int), jZ K id 13 [(0, 2, 2)] [(0, u2)] M (j u2)) (fun u2 => ?_) (fun j13 hj13 => ?_)
  · refine z_istore_n (pc := 13) hR (lv' := [(2, 0, u2), (0, 2, 2)]) dX8_takes_13 rfl (by decide) rfl ?_
    refine z_iload_n (pc := 14) hR 0 dX8_takes_14 rfl rfl ?_
    refine z_ifeq (pc := 15) (tgt := 22) hR dX8_takes_15 (by decide) ?_ ?_
    · refine z_iload_n (pc := 22) hR 0 dX8_takes_22 rfl rfl ?_
      refine z_chk (fun hc3 => ?_)
      exact z_zreturn (pc := 23) hR rfl rfl hc3 dX8_takes_23 rfl
    · refine z_aload_n (pc := 18) hR 1 dX8_takes_18 rfl rfl ?_
      refine z_callv0 (pc := 19) (rk' := 3) hR (As := []) (st := []) jm_X8_move jl_RX8_73 kxo_2 (by decide) rfl (c_To_move N M) rfl (by decide) (by decide) rfl (Nat.le_of_ble_eq_true rfl) dX8_takes_19 (fun M4 => ?_)
      refine z_iload_n (pc := 22) hR 0 dX8_takes_22 rfl rfl ?_
      refine z_chk (fun hc5 => ?_)
      exact z_zreturn (pc := 23) hR rfl rfl hc5 dX8_takes_23 rfl
  refine z_icmpne (pc := 5) (tgt := 12) hR dX8_takes_5 (by decide) ?_ ?_
  · refine z_iconst (pc := 12) hR dX8_takes_12 rfl ?_
    refine z_pick (pc := 13) (lv' := [(0, 2, 2)]) hR [0] rfl ?_
    exact hj13 0
  · refine z_iconst (pc := 8) hR dX8_takes_8 rfl ?_
    refine z_goto (pc := 9) (tgt := 13) hR dX8_takes_9 (by decide) ?_
    refine z_pick (pc := 13) (lv' := [(0, 2, 2)]) hR [0] rfl ?_
    exact hj13 1
theorem dX8_takeEnd_0 : decode cX8_takeEnd 0 = .ok (.aload_n 0, 1) := by decide +kernel
theorem dX8_takeEnd_1 : decode cX8_takeEnd 1 = .ok (.invokevirtual 70, 3) := by decide +kernel
theorem dX8_takeEnd_4 : decode cX8_takeEnd 4 = .ok (.ifCond .eq 8, 3) := by decide +kernel
theorem dX8_takeEnd_7 : decode cX8_takeEnd 7 = .ok (.aload_n 0, 1) := by decide +kernel
theorem dX8_takeEnd_8 : decode cX8_takeEnd 8 = .ok (.iconst 0, 1) := by decide +kernel
theorem dX8_takeEnd_9 : decode cX8_takeEnd 9 = .ok (.invokevirtual 76, 3) := by decide +kernel
theorem dX8_takeEnd_12 : decode cX8_takeEnd 12 = .ok (.return_, 1) := by decide +kernel
def To_takeEnd (N : Nat) (M : jMem) : Option (Int × jMem) := (To_looked N M).bind fun r1 => (if r1 = 0 then some (0, M) else jbv (To_fail N 0 M) fun M2 => some (0, M2))
theorem c_To_takeEnd {l : Launch} {g : jG} (N : Nat) (M : jMem)  : ∀ o, To_takeEnd N  M = some o → jCt l g jTX yX8_takeEnd cX8_takeEnd 1 none 3 3 [(2, 2)] M o := by
  refine jMet (own := RX8) (em := id) (L := [(0, 2, 2)]) (by decide +kernel) rfl (Nat.le_of_ble_eq_true rfl) rfl (fun K hR => ?_)
  unfold To_takeEnd
  refine z_aload_n (pc := 0) hR 0 dX8_takeEnd_0 rfl rfl ?_
  refine z_callvp (pc := 1) hR (As := []) (st := []) jm_X8_looked jl_RX8_70 kxo_2 (by decide) rfl (by decide) (c_To_looked N M) rfl (by decide) (by decide) rfl (Nat.le_of_ble_eq_true rfl) dX8_takeEnd_1 (fun r1 => ?_)
  refine z_ifeq (pc := 4) (tgt := 12) hR dX8_takeEnd_4 (by decide) ?_ ?_
  · exact z_return (x := 0) (pc := 12) hR rfl rfl dX8_takeEnd_12 rfl
  · refine z_aload_n (pc := 7) hR 0 dX8_takeEnd_7 rfl rfl ?_
    refine z_iconst (pc := 8) hR dX8_takeEnd_8 rfl ?_
    refine z_callv0 (pc := 9) (rk' := 3) hR (As := [(0, 0)]) (st := []) jm_X8_fail jl_RX8_76 kxo_2 (by decide) rfl (c_To_fail N 0 M) rfl (by decide) (by decide) rfl (Nat.le_of_ble_eq_true rfl) dX8_takeEnd_9 (fun M2 => ?_)
    exact z_return (x := 0) (pc := 12) hR rfl rfl dX8_takeEnd_12 rfl
theorem dX4_readFrom_0 : decode cX4_readFrom 0 = .ok (.aload_n 0, 1) := by decide +kernel
theorem dX4_readFrom_1 : decode cX4_readFrom 1 = .ok (.invokevirtual 40, 3) := by decide +kernel
theorem dX4_readFrom_4 : decode cX4_readFrom 4 = .ok (.iconst 0, 1) := by decide +kernel
theorem dX4_readFrom_5 : decode cX4_readFrom 5 = .ok (.istore_n 2, 1) := by decide +kernel
theorem dX4_readFrom_6 : decode cX4_readFrom 6 = .ok (.aload_n 0, 1) := by decide +kernel
theorem dX4_readFrom_7 : decode cX4_readFrom 7 = .ok (.aload_n 1, 1) := by decide +kernel
theorem dX4_readFrom_8 : decode cX4_readFrom 8 = .ok (.iload_n 2, 1) := by decide +kernel
theorem dX4_readFrom_9 : decode cX4_readFrom 9 = .ok (.invokevirtual 43, 3) := by decide +kernel
theorem dX4_readFrom_12 : decode cX4_readFrom 12 = .ok (.iinc 2 1, 3) := by decide +kernel
theorem dX4_readFrom_15 : decode cX4_readFrom 15 = .ok (.iload_n 2, 1) := by decide +kernel
theorem dX4_readFrom_16 : decode cX4_readFrom 16 = .ok (.bipush 40, 2) := by decide +kernel
theorem dX4_readFrom_18 : decode cX4_readFrom 18 = .ok (.if_icmp .gt 11, 3) := by decide +kernel
theorem dX4_readFrom_21 : decode cX4_readFrom 21 = .ok (.aload_n 1, 1) := by decide +kernel
theorem dX4_readFrom_22 : decode cX4_readFrom 22 = .ok (.iconst 4, 1) := by decide +kernel
theorem dX4_readFrom_23 : decode cX4_readFrom 23 = .ok (.invokevirtual 47, 3) := by decide +kernel
theorem dX4_readFrom_26 : decode cX4_readFrom 26 = .ok (.ifCond .ne (-20), 3) := by decide +kernel
theorem dX4_readFrom_29 : decode cX4_readFrom 29 = .ok (.aload_n 1, 1) := by decide +kernel
theorem dX4_readFrom_30 : decode cX4_readFrom 30 = .ok (.invokevirtual 53, 3) := by decide +kernel
theorem dX4_readFrom_33 : decode cX4_readFrom 33 = .ok (.aload_n 1, 1) := by decide +kernel
theorem dX4_readFrom_34 : decode cX4_readFrom 34 = .ok (.getfield 56, 3) := by decide +kernel
theorem dX4_readFrom_37 : decode cX4_readFrom 37 = .ok (.ireturn, 1) := by decide +kernel
def Pa_readFrom_L6 (N : Nat) (q : Int) (h6 : (Int × jMem) → Option (Int × jMem)) : Int × jMem → Option (Int × jMem)
  | (x2, M3) => jbv (Pa_readClause N q x2 M3) fun M4 => jlt (fun (M5 : jMem) => jbv (To_takeEnd N M5) fun M6 => some ((M6 2 4), M6)) fun j29 => (if 40 < (w32 (x2 + 1)) then j29 M4 else jb1 (To_takes N 4 M4) fun r7 M8 => (if r7 = 0 then j29 M8 else h6 ((w32 (x2 + 1)), M8)))
def Pa_readFrom (N : Nat) (q : Int) (M : jMem) : Option (Int × jMem) := jbv (Pa_setUntold N q M) fun M1 => jfix N (Pa_readFrom_L6 N q) (0, M1)
theorem c_Pa_readFrom {l : Launch} {g : jG} (N : Nat) (q : Int) (M : jMem) (hq : jk jTX q 4) : ∀ o, Pa_readFrom N q M = some o → jCt l g jTX yX4_readFrom cX4_readFrom 3 (some .int) 0 9 [(2, q), (2, 2)] M o := by
  refine jMet (own := RX4) (em := id) (L := [(0, 2, q), (1, 2, 2)]) (by decide +kernel) rfl (Nat.le_of_ble_eq_true rfl) rfl (fun K hR => ?_)
  unfold Pa_readFrom
  refine z_aload_n (pc := 0) hR 0 dX4_readFrom_0 rfl rfl ?_
  refine z_callv0 (pc := 1) (rk' := 3) hR (As := []) (st := []) jm_X4_setUntold jl_RX4_40 hq (by decide) rfl (c_Pa_setUntold N q M hq) rfl (by decide) (by decide) rfl (Nat.le_of_ble_eq_true rfl) dX4_readFrom_1 (fun M1 => ?_)
  refine z_iconst (pc := 4) hR dX4_readFrom_4 rfl ?_
  refine z_istore_n (pc := 5) hR (lv' := [(2, 0, 0), (0, 2, q), (1, 2, 2)]) dX4_readFrom_5 rfl (by decide) rfl ?_
  refine z_pick (pc := 6) (lv' := [(0, 2, q), (1, 2, 2), (2, 0, 0)]) hR [1, 2, 0] rfl ?_
  refine z_fix (σ := Int × jMem) (lv := fun s => [(0, 2, q), (1, 2, 2), (2, 0, s.1)]) (st := fun _ => []) (M := fun s => s.2) (fun h6 hh6 => ?_) N (0, M1)
  rintro ⟨x2, M3⟩
  show jZ K id 6 [(0, 2, q), (1, 2, 2), (2, 0, x2)] [] M3 _
  unfold Pa_readFrom_L6
  refine z_aload_n (pc := 6) hR 0 dX4_readFrom_6 rfl rfl ?_
  refine z_aload_n (pc := 7) hR 1 dX4_readFrom_7 rfl rfl ?_
  refine z_iload_n (pc := 8) hR 2 dX4_readFrom_8 rfl rfl ?_
  refine z_callv0 (pc := 9) (rk' := 3) hR (As := [(2, 2), (0, x2)]) (st := []) jm_X4_readClause jl_RX4_43 hq (by decide) rfl (c_Pa_readClause N q x2 M3 hq) rfl (by decide) (by decide) rfl (Nat.le_of_ble_eq_true rfl) dX4_readFrom_9 (fun M4 => ?_)
  refine z_iinc (pc := 12) hR (j := 2) (lv' := [(2, 0, (w32 (x2 + 1))), (0, 2, q), (1, 2, 2)]) dX4_readFrom_12 rfl (by decide) rfl ?_
  refine z_iload_n (pc := 15) hR 0 dX4_readFrom_15 rfl rfl ?_
  refine z_bipush (pc := 16) hR dX4_readFrom_16 rfl ?_
  refine z_join (P := fun j => ∀ (M5 : jMem), jZ K id 29 [(1, 2, 2)] [] M5 (j M5)) (fun M5 => ?_) (fun j29 hj29 => ?_)
  · refine z_aload_n (pc := 29) hR 0 dX4_readFrom_29 rfl rfl ?_
    refine z_callv0 (pc := 30) (rk' := 3) hR (As := []) (st := []) jm_X8_takeEnd jl_RX4_53 kxo_2 (by decide) rfl (c_To_takeEnd N M5) rfl (by decide) (by decide) rfl (Nat.le_of_ble_eq_true rfl) dX4_readFrom_30 (fun M6 => ?_)
    refine z_aload_n (pc := 33) hR 0 dX4_readFrom_33 rfl rfl ?_
    refine z_geti (pc := 34) hR (j := 4) jf_RX4_56 kxo_2 (by decide) rfl rfl dX4_readFrom_34 ?_
    exact z_ireturn (pc := 37) hR rfl rfl dX4_readFrom_37 rfl
  refine z_icmpgt (pc := 18) (tgt := 29) hR dX4_readFrom_18 (by decide) ?_ ?_
  · refine z_pick (pc := 29) (lv' := [(1, 2, 2)]) hR [2] rfl ?_
    exact hj29 M4
  · refine z_aload_n (pc := 21) hR 2 dX4_readFrom_21 rfl rfl ?_
    refine z_iconst (pc := 22) hR dX4_readFrom_22 rfl ?_
    refine z_callv1 (pc := 23) hR (As := [(0, 4)]) (st := []) jm_X8_takes jl_RX4_47 kxo_2 (by decide) rfl (by decide) (c_To_takes N 4 M4) rfl (by decide) (by decide) rfl (Nat.le_of_ble_eq_true rfl) dX4_readFrom_23 (fun r7 M8 => ?_)
    refine z_ifne (pc := 26) (tgt := 6) hR dX4_readFrom_26 (by decide) ?_ ?_
    · refine z_pick (pc := 6) (lv' := [(0, 2, q), (1, 2, 2), (2, 0, (w32 (x2 + 1)))]) hR [1, 2, 0] rfl ?_
      exact hh6 ((w32 (x2 + 1)), M8)
    · refine z_pick (pc := 29) (lv' := [(1, 2, 2)]) hR [2] rfl ?_
      exact hj29 M8
theorem dX4_copyFrom_0 : decode cX4_copyFrom 0 = .ok (.aload_n 0, 1) := by decide +kernel
theorem dX4_copyFrom_1 : decode cX4_copyFrom 1 = .ok (.aload_n 1, 1) := by decide +kernel
theorem dX4_copyFrom_2 : decode cX4_copyFrom 2 = .ok (.getfield 27, 3) := by decide +kernel
theorem dX4_copyFrom_5 : decode cX4_copyFrom 5 = .ok (.putfield 27, 3) := by decide +kernel
theorem dX4_copyFrom_8 : decode cX4_copyFrom 8 = .ok (.aload_n 0, 1) := by decide +kernel
theorem dX4_copyFrom_9 : decode cX4_copyFrom 9 = .ok (.aload_n 1, 1) := by decide +kernel
theorem dX4_copyFrom_10 : decode cX4_copyFrom 10 = .ok (.getfield 31, 3) := by decide +kernel
theorem dX4_copyFrom_13 : decode cX4_copyFrom 13 = .ok (.putfield 31, 3) := by decide +kernel
theorem dX4_copyFrom_16 : decode cX4_copyFrom 16 = .ok (.aload_n 1, 1) := by decide +kernel
theorem dX4_copyFrom_17 : decode cX4_copyFrom 17 = .ok (.getfield 9, 3) := by decide +kernel
theorem dX4_copyFrom_20 : decode cX4_copyFrom 20 = .ok (.iconst 0, 1) := by decide +kernel
theorem dX4_copyFrom_21 : decode cX4_copyFrom 21 = .ok (.aload_n 0, 1) := by decide +kernel
theorem dX4_copyFrom_22 : decode cX4_copyFrom 22 = .ok (.getfield 9, 3) := by decide +kernel
theorem dX4_copyFrom_25 : decode cX4_copyFrom 25 = .ok (.iconst 0, 1) := by decide +kernel
theorem dX4_copyFrom_26 : decode cX4_copyFrom 26 = .ok (.bipush 7, 2) := by decide +kernel
theorem dX4_copyFrom_28 : decode cX4_copyFrom 28 = .ok (.invokestatic 34, 3) := by decide +kernel
theorem dX4_copyFrom_31 : decode cX4_copyFrom 31 = .ok (.aload_n 1, 1) := by decide +kernel
theorem dX4_copyFrom_32 : decode cX4_copyFrom 32 = .ok (.getfield 15, 3) := by decide +kernel
theorem dX4_copyFrom_35 : decode cX4_copyFrom 35 = .ok (.iconst 0, 1) := by decide +kernel
theorem dX4_copyFrom_36 : decode cX4_copyFrom 36 = .ok (.aload_n 0, 1) := by decide +kernel
theorem dX4_copyFrom_37 : decode cX4_copyFrom 37 = .ok (.getfield 15, 3) := by decide +kernel
theorem dX4_copyFrom_40 : decode cX4_copyFrom 40 = .ok (.iconst 0, 1) := by decide +kernel
theorem dX4_copyFrom_41 : decode cX4_copyFrom 41 = .ok (.bipush 7, 2) := by decide +kernel
theorem dX4_copyFrom_43 : decode cX4_copyFrom 43 = .ok (.invokestatic 34, 3) := by decide +kernel
theorem dX4_copyFrom_46 : decode cX4_copyFrom 46 = .ok (.aload_n 1, 1) := by decide +kernel
theorem dX4_copyFrom_47 : decode cX4_copyFrom 47 = .ok (.getfield 18, 3) := by decide +kernel
theorem dX4_copyFrom_50 : decode cX4_copyFrom 50 = .ok (.iconst 0, 1) := by decide +kernel
theorem dX4_copyFrom_51 : decode cX4_copyFrom 51 = .ok (.aload_n 0, 1) := by decide +kernel
theorem dX4_copyFrom_52 : decode cX4_copyFrom 52 = .ok (.getfield 18, 3) := by decide +kernel
theorem dX4_copyFrom_55 : decode cX4_copyFrom 55 = .ok (.iconst 0, 1) := by decide +kernel
theorem dX4_copyFrom_56 : decode cX4_copyFrom 56 = .ok (.bipush 7, 2) := by decide +kernel
theorem dX4_copyFrom_58 : decode cX4_copyFrom 58 = .ok (.invokestatic 34, 3) := by decide +kernel
theorem dX4_copyFrom_61 : decode cX4_copyFrom 61 = .ok (.aload_n 1, 1) := by decide +kernel
theorem dX4_copyFrom_62 : decode cX4_copyFrom 62 = .ok (.getfield 21, 3) := by decide +kernel
theorem dX4_copyFrom_65 : decode cX4_copyFrom 65 = .ok (.iconst 0, 1) := by decide +kernel
theorem dX4_copyFrom_66 : decode cX4_copyFrom 66 = .ok (.aload_n 0, 1) := by decide +kernel
theorem dX4_copyFrom_67 : decode cX4_copyFrom 67 = .ok (.getfield 21, 3) := by decide +kernel
theorem dX4_copyFrom_70 : decode cX4_copyFrom 70 = .ok (.iconst 0, 1) := by decide +kernel
theorem dX4_copyFrom_71 : decode cX4_copyFrom 71 = .ok (.bipush 7, 2) := by decide +kernel
theorem dX4_copyFrom_73 : decode cX4_copyFrom 73 = .ok (.invokestatic 34, 3) := by decide +kernel
theorem dX4_copyFrom_76 : decode cX4_copyFrom 76 = .ok (.aload_n 1, 1) := by decide +kernel
theorem dX4_copyFrom_77 : decode cX4_copyFrom 77 = .ok (.getfield 24, 3) := by decide +kernel
theorem dX4_copyFrom_80 : decode cX4_copyFrom 80 = .ok (.iconst 0, 1) := by decide +kernel
theorem dX4_copyFrom_81 : decode cX4_copyFrom 81 = .ok (.aload_n 0, 1) := by decide +kernel
theorem dX4_copyFrom_82 : decode cX4_copyFrom 82 = .ok (.getfield 24, 3) := by decide +kernel
theorem dX4_copyFrom_85 : decode cX4_copyFrom 85 = .ok (.iconst 0, 1) := by decide +kernel
theorem dX4_copyFrom_86 : decode cX4_copyFrom 86 = .ok (.bipush 7, 2) := by decide +kernel
theorem dX4_copyFrom_88 : decode cX4_copyFrom 88 = .ok (.invokestatic 34, 3) := by decide +kernel
theorem dX4_copyFrom_91 : decode cX4_copyFrom 91 = .ok (.return_, 1) := by decide +kernel
def Pa_copyFrom (N : Nat) (q a1 : Int) (M : jMem) : Option (Int × jMem) := jlt (up M q 0 ((M a1 0))) fun M1 => jlt (up M1 q 1 ((M1 a1 1))) fun M2 => jlt (jcp M2 ((a1 + 1)) ((q + 1)) 7) fun M3 => jlt (jcp M3 ((a1 + 2)) ((q + 2)) 7) fun M4 => jlt (jcp M4 ((a1 + 3)) ((q + 3)) 7) fun M5 => jlt (jcp M5 ((a1 + 4)) ((q + 4)) 7) fun M6 => jlt (jcp M6 ((a1 + 5)) ((q + 5)) 7) fun M7 => some (0, M7)
theorem c_Pa_copyFrom {l : Launch} {g : jG} (N : Nat) (q a1 : Int) (M : jMem) (hq : jk jTX q 4) (ha1 : jk jTX a1 4) : ∀ o, Pa_copyFrom N q a1 M = some o → jCt l g jTX yX4_copyFrom cX4_copyFrom 2 none 3 2 [(2, q), (2, a1)] M o := by
  refine jMet (own := RX4) (em := id) (L := [(0, 2, q), (1, 2, a1)]) (by decide +kernel) rfl (Nat.le_of_ble_eq_true rfl) rfl (fun K hR => ?_)
  unfold Pa_copyFrom
  refine z_aload_n (pc := 0) hR 0 dX4_copyFrom_0 rfl rfl ?_
  refine z_aload_n (pc := 1) hR 1 dX4_copyFrom_1 rfl rfl ?_
  refine z_geti (pc := 2) hR (j := 0) jf_RX4_27 ha1 (by decide) rfl rfl dX4_copyFrom_2 ?_
  refine z_puti (pc := 5) hR (j := 0) jp_RX4_27 hq (by decide) rfl rfl rfl rfl dX4_copyFrom_5 (fun M1 => ?_)
  refine z_aload_n (pc := 8) hR 0 dX4_copyFrom_8 rfl rfl ?_
  refine z_aload_n (pc := 9) hR 1 dX4_copyFrom_9 rfl rfl ?_
  refine z_geti (pc := 10) hR (j := 1) jf_RX4_31 ha1 (by decide) rfl rfl dX4_copyFrom_10 ?_
  refine z_puti (pc := 13) hR (j := 1) jp_RX4_31 hq (by decide) rfl rfl rfl rfl dX4_copyFrom_13 (fun M2 => ?_)
  refine z_aload_n (pc := 16) hR 1 dX4_copyFrom_16 rfl rfl ?_
  refine z_getr (pc := 17) hR (c0 := 1) (r := (a1 + 1)) jf_RX4_9 ha1 (by decide) rfl rfl dX4_copyFrom_17 ?_
  refine z_iconst (pc := 20) hR dX4_copyFrom_20 rfl ?_
  refine z_aload_n (pc := 21) hR 0 dX4_copyFrom_21 rfl rfl ?_
  refine z_getr (pc := 22) hR (c0 := 1) (r := (q + 1)) jf_RX4_9 hq (by decide) rfl rfl dX4_copyFrom_22 ?_
  refine z_iconst (pc := 25) hR dX4_copyFrom_25 rfl ?_
  refine z_bipush (pc := 26) hR dX4_copyFrom_26 rfl ?_
  refine z_copy (pc := 28) hR (n := 7) jl_RX4_34 jw_cp_n jw_cp_s jw_System (kf_4_depth ha1) (kf_4_depth hq) rfl (by decide) (by decide) (by decide) (by decide) dX4_copyFrom_28 (fun M3 => ?_)
  refine z_aload_n (pc := 31) hR 1 dX4_copyFrom_31 rfl rfl ?_
  refine z_getr (pc := 32) hR (c0 := 2) (r := (a1 + 2)) jf_RX4_15 ha1 (by decide) rfl rfl dX4_copyFrom_32 ?_
  refine z_iconst (pc := 35) hR dX4_copyFrom_35 rfl ?_
  refine z_aload_n (pc := 36) hR 0 dX4_copyFrom_36 rfl rfl ?_
  refine z_getr (pc := 37) hR (c0 := 2) (r := (q + 2)) jf_RX4_15 hq (by decide) rfl rfl dX4_copyFrom_37 ?_
  refine z_iconst (pc := 40) hR dX4_copyFrom_40 rfl ?_
  refine z_bipush (pc := 41) hR dX4_copyFrom_41 rfl ?_
  refine z_copy (pc := 43) hR (n := 7) jl_RX4_34 jw_cp_n jw_cp_s jw_System (kf_4_taste ha1) (kf_4_taste hq) rfl (by decide) (by decide) (by decide) (by decide) dX4_copyFrom_43 (fun M4 => ?_)
  refine z_aload_n (pc := 46) hR 1 dX4_copyFrom_46 rfl rfl ?_
  refine z_getr (pc := 47) hR (c0 := 3) (r := (a1 + 3)) jf_RX4_18 ha1 (by decide) rfl rfl dX4_copyFrom_47 ?_
  refine z_iconst (pc := 50) hR dX4_copyFrom_50 rfl ?_
  refine z_aload_n (pc := 51) hR 0 dX4_copyFrom_51 rfl rfl ?_
  refine z_getr (pc := 52) hR (c0 := 3) (r := (q + 3)) jf_RX4_18 hq (by decide) rfl rfl dX4_copyFrom_52 ?_
  refine z_iconst (pc := 55) hR dX4_copyFrom_55 rfl ?_
  refine z_bipush (pc := 56) hR dX4_copyFrom_56 rfl ?_
  refine z_copy (pc := 58) hR (n := 7) jl_RX4_34 jw_cp_n jw_cp_s jw_System (kf_4_draws ha1) (kf_4_draws hq) rfl (by decide) (by decide) (by decide) (by decide) dX4_copyFrom_58 (fun M5 => ?_)
  refine z_aload_n (pc := 61) hR 1 dX4_copyFrom_61 rfl rfl ?_
  refine z_getr (pc := 62) hR (c0 := 4) (r := (a1 + 4)) jf_RX4_21 ha1 (by decide) rfl rfl dX4_copyFrom_62 ?_
  refine z_iconst (pc := 65) hR dX4_copyFrom_65 rfl ?_
  refine z_aload_n (pc := 66) hR 0 dX4_copyFrom_66 rfl rfl ?_
  refine z_getr (pc := 67) hR (c0 := 4) (r := (q + 4)) jf_RX4_21 hq (by decide) rfl rfl dX4_copyFrom_67 ?_
  refine z_iconst (pc := 70) hR dX4_copyFrom_70 rfl ?_
  refine z_bipush (pc := 71) hR dX4_copyFrom_71 rfl ?_
  refine z_copy (pc := 73) hR (n := 7) jl_RX4_34 jw_cp_n jw_cp_s jw_System (kf_4_heirs ha1) (kf_4_heirs hq) rfl (by decide) (by decide) (by decide) (by decide) dX4_copyFrom_73 (fun M6 => ?_)
  refine z_aload_n (pc := 76) hR 1 dX4_copyFrom_76 rfl rfl ?_
  refine z_getr (pc := 77) hR (c0 := 5) (r := (a1 + 5)) jf_RX4_24 ha1 (by decide) rfl rfl dX4_copyFrom_77 ?_
  refine z_iconst (pc := 80) hR dX4_copyFrom_80 rfl ?_
  refine z_aload_n (pc := 81) hR 0 dX4_copyFrom_81 rfl rfl ?_
  refine z_getr (pc := 82) hR (c0 := 5) (r := (q + 5)) jf_RX4_24 hq (by decide) rfl rfl dX4_copyFrom_82 ?_
  refine z_iconst (pc := 85) hR dX4_copyFrom_85 rfl ?_
  refine z_bipush (pc := 86) hR dX4_copyFrom_86 rfl ?_
  refine z_copy (pc := 88) hR (n := 7) jl_RX4_34 jw_cp_n jw_cp_s jw_System (kf_4_kin ha1) (kf_4_kin hq) rfl (by decide) (by decide) (by decide) (by decide) dX4_copyFrom_88 (fun M7 => ?_)
  exact z_return (x := 0) (pc := 91) hR rfl rfl dX4_copyFrom_91 rfl
theorem dX7_begin_0 : decode cX7_begin 0 = .ok (.aload_n 0, 1) := by decide +kernel
theorem dX7_begin_1 : decode cX7_begin 1 = .ok (.aload_n 1, 1) := by decide +kernel
theorem dX7_begin_2 : decode cX7_begin 2 = .ok (.getfield 40, 3) := by decide +kernel
theorem dX7_begin_5 : decode cX7_begin 5 = .ok (.putfield 27, 3) := by decide +kernel
theorem dX7_begin_8 : decode cX7_begin 8 = .ok (.aload_n 0, 1) := by decide +kernel
theorem dX7_begin_9 : decode cX7_begin 9 = .ok (.iconst 0, 1) := by decide +kernel
theorem dX7_begin_10 : decode cX7_begin 10 = .ok (.putfield 31, 3) := by decide +kernel
theorem dX7_begin_13 : decode cX7_begin 13 = .ok (.iconst 0, 1) := by decide +kernel
theorem dX7_begin_14 : decode cX7_begin 14 = .ok (.istore_n 2, 1) := by decide +kernel
theorem dX7_begin_15 : decode cX7_begin 15 = .ok (.iload_n 2, 1) := by decide +kernel
theorem dX7_begin_16 : decode cX7_begin 16 = .ok (.bipush 7, 2) := by decide +kernel
theorem dX7_begin_18 : decode cX7_begin 18 = .ok (.if_icmp .ge 64, 3) := by decide +kernel
theorem dX7_begin_21 : decode cX7_begin 21 = .ok (.aload_n 0, 1) := by decide +kernel
theorem dX7_begin_22 : decode cX7_begin 22 = .ok (.getfield 9, 3) := by decide +kernel
theorem dX7_begin_25 : decode cX7_begin 25 = .ok (.iload_n 2, 1) := by decide +kernel
theorem dX7_begin_26 : decode cX7_begin 26 = .ok (.aload_n 1, 1) := by decide +kernel
theorem dX7_begin_27 : decode cX7_begin 27 = .ok (.getfield 43, 3) := by decide +kernel
theorem dX7_begin_30 : decode cX7_begin 30 = .ok (.iload_n 2, 1) := by decide +kernel
theorem dX7_begin_31 : decode cX7_begin 31 = .ok (.iaload, 1) := by decide +kernel
theorem dX7_begin_32 : decode cX7_begin 32 = .ok (.iastore, 1) := by decide +kernel
theorem dX7_begin_33 : decode cX7_begin 33 = .ok (.aload_n 0, 1) := by decide +kernel
theorem dX7_begin_34 : decode cX7_begin 34 = .ok (.getfield 15, 3) := by decide +kernel
theorem dX7_begin_37 : decode cX7_begin 37 = .ok (.iload_n 2, 1) := by decide +kernel
theorem dX7_begin_38 : decode cX7_begin 38 = .ok (.aload_n 1, 1) := by decide +kernel
theorem dX7_begin_39 : decode cX7_begin 39 = .ok (.getfield 44, 3) := by decide +kernel
theorem dX7_begin_42 : decode cX7_begin 42 = .ok (.iload_n 2, 1) := by decide +kernel
theorem dX7_begin_43 : decode cX7_begin 43 = .ok (.iaload, 1) := by decide +kernel
theorem dX7_begin_44 : decode cX7_begin 44 = .ok (.iastore, 1) := by decide +kernel
theorem dX7_begin_45 : decode cX7_begin 45 = .ok (.aload_n 0, 1) := by decide +kernel
theorem dX7_begin_46 : decode cX7_begin 46 = .ok (.getfield 18, 3) := by decide +kernel
theorem dX7_begin_49 : decode cX7_begin 49 = .ok (.iload_n 2, 1) := by decide +kernel
theorem dX7_begin_50 : decode cX7_begin 50 = .ok (.aload_n 1, 1) := by decide +kernel
theorem dX7_begin_51 : decode cX7_begin 51 = .ok (.getfield 43, 3) := by decide +kernel
theorem dX7_begin_54 : decode cX7_begin 54 = .ok (.iload_n 2, 1) := by decide +kernel
theorem dX7_begin_55 : decode cX7_begin 55 = .ok (.iaload, 1) := by decide +kernel
theorem dX7_begin_56 : decode cX7_begin 56 = .ok (.iastore, 1) := by decide +kernel
theorem dX7_begin_57 : decode cX7_begin 57 = .ok (.aload_n 0, 1) := by decide +kernel
theorem dX7_begin_58 : decode cX7_begin 58 = .ok (.getfield 21, 3) := by decide +kernel
theorem dX7_begin_61 : decode cX7_begin 61 = .ok (.iload_n 2, 1) := by decide +kernel
theorem dX7_begin_62 : decode cX7_begin 62 = .ok (.iload_n 2, 1) := by decide +kernel
theorem dX7_begin_63 : decode cX7_begin 63 = .ok (.iastore, 1) := by decide +kernel
theorem dX7_begin_64 : decode cX7_begin 64 = .ok (.aload_n 0, 1) := by decide +kernel
theorem dX7_begin_65 : decode cX7_begin 65 = .ok (.getfield 24, 3) := by decide +kernel
theorem dX7_begin_68 : decode cX7_begin 68 = .ok (.iload_n 2, 1) := by decide +kernel
theorem dX7_begin_69 : decode cX7_begin 69 = .ok (.aload_n 1, 1) := by decide +kernel
theorem dX7_begin_70 : decode cX7_begin 70 = .ok (.getfield 45, 3) := by decide +kernel
theorem dX7_begin_73 : decode cX7_begin 73 = .ok (.iload_n 2, 1) := by decide +kernel
theorem dX7_begin_74 : decode cX7_begin 74 = .ok (.iaload, 1) := by decide +kernel
theorem dX7_begin_75 : decode cX7_begin 75 = .ok (.iastore, 1) := by decide +kernel
theorem dX7_begin_76 : decode cX7_begin 76 = .ok (.iinc 2 1, 3) := by decide +kernel
theorem dX7_begin_79 : decode cX7_begin 79 = .ok (.goto (-64), 3) := by decide +kernel
theorem dX7_begin_82 : decode cX7_begin 82 = .ok (.return_, 1) := by decide +kernel
def St_begin_L15 (N : Nat) (q : Int) (a1 : Int) (h15 : (Int × jMem) → Option (Int × jMem)) : Int × jMem → Option (Int × jMem)
  | (x3, M4) => (if x3 < 7 then jchk (0 ≤ x3 ∧ x3 < 7) <| jchk (0 ≤ x3 ∧ x3 < 7) <| jlt (up M4 ((q + 1)) x3 ((M4 ((a1 + 1)) x3))) fun M7 => jchk (0 ≤ x3 ∧ x3 < 7) <| jchk (0 ≤ x3 ∧ x3 < 7) <| jlt (up M7 ((q + 2)) x3 ((M7 ((a1 + 2)) x3))) fun M10 => jchk (0 ≤ x3 ∧ x3 < 7) <| jchk (0 ≤ x3 ∧ x3 < 7) <| jlt (up M10 ((q + 3)) x3 ((M10 ((a1 + 1)) x3))) fun M13 => jchk (0 ≤ x3 ∧ x3 < 7) <| jlt (up M13 ((q + 4)) x3 x3) fun M15 => jchk (0 ≤ x3 ∧ x3 < 7) <| jchk (0 ≤ x3 ∧ x3 < 7) <| jlt (up M15 ((q + 5)) x3 ((M15 ((a1 + 4)) x3))) fun M18 => h15 ((w32 (x3 + 1)), M18) else some (0, M4))
def St_begin (N : Nat) (q a1 : Int) (M : jMem) : Option (Int × jMem) := jlt (up M q 0 ((M a1 0))) fun M1 => jlt (up M1 q 1 0) fun M2 => jfix N (St_begin_L15 N q a1) (0, M2)
theorem c_St_begin {l : Launch} {g : jG} (N : Nat) (q a1 : Int) (M : jMem) (hq : jk jTX q 7) (ha1 : jk jTX a1 4) : ∀ o, St_begin N q a1 M = some o → jCt l g jTX yX7_begin cX7_begin 3 none 3 1 [(2, q), (2, a1)] M o := by
  refine jMet (own := RX7) (em := id) (L := [(0, 2, q), (1, 2, a1)]) (by decide +kernel) rfl (Nat.le_of_ble_eq_true rfl) rfl (fun K hR => ?_)
  unfold St_begin
  refine z_aload_n (pc := 0) hR 0 dX7_begin_0 rfl rfl ?_
  refine z_aload_n (pc := 1) hR 1 dX7_begin_1 rfl rfl ?_
  refine z_geti (pc := 2) hR (j := 0) jf_RX7_40 ha1 (by decide) rfl rfl dX7_begin_2 ?_
  refine z_puti (pc := 5) hR (j := 0) jp_RX7_27 hq (by decide) rfl rfl rfl rfl dX7_begin_5 (fun M1 => ?_)
  refine z_aload_n (pc := 8) hR 0 dX7_begin_8 rfl rfl ?_
  refine z_iconst (pc := 9) hR dX7_begin_9 rfl ?_
  refine z_puti (pc := 10) hR (j := 1) jp_RX7_31 hq (by decide) rfl rfl rfl rfl dX7_begin_10 (fun M2 => ?_)
  refine z_iconst (pc := 13) hR dX7_begin_13 rfl ?_
  refine z_istore_n (pc := 14) hR (lv' := [(2, 0, 0), (0, 2, q), (1, 2, a1)]) dX7_begin_14 rfl (by decide) rfl ?_
  refine z_pick (pc := 15) (lv' := [(0, 2, q), (1, 2, a1), (2, 0, 0)]) hR [1, 2, 0] rfl ?_
  refine z_fix (σ := Int × jMem) (lv := fun s => [(0, 2, q), (1, 2, a1), (2, 0, s.1)]) (st := fun _ => []) (M := fun s => s.2) (fun h15 hh15 => ?_) N (0, M2)
  rintro ⟨x3, M4⟩
  show jZ K id 15 [(0, 2, q), (1, 2, a1), (2, 0, x3)] [] M4 _
  unfold St_begin_L15
  refine z_iload_n (pc := 15) hR 2 dX7_begin_15 rfl rfl ?_
  refine z_bipush (pc := 16) hR dX7_begin_16 rfl ?_
  refine z_icmpge (pc := 18) (tgt := 82) hR dX7_begin_18 (by decide) ?_ ?_
  · exact z_return (x := 0) (pc := 82) hR rfl rfl dX7_begin_82 rfl
  · refine z_aload_n (pc := 21) hR 0 dX7_begin_21 rfl rfl ?_
    refine z_getr (pc := 22) hR (c0 := 1) (r := (q + 1)) jf_RX7_9 hq (by decide) rfl rfl dX7_begin_22 ?_
    refine z_iload_n (pc := 25) hR 2 dX7_begin_25 rfl rfl ?_
    refine z_aload_n (pc := 26) hR 1 dX7_begin_26 rfl rfl ?_
    refine z_getr (pc := 27) hR (c0 := 1) (r := (a1 + 1)) jf_RX7_43 ha1 (by decide) rfl rfl dX7_begin_27 ?_
    refine z_iload_n (pc := 30) hR 2 dX7_begin_30 rfl rfl ?_
    refine z_chk (fun hc5 => ?_)
    refine z_iald (pc := 31) hR (n := 7) (kf_4_depth ha1) hc5.1 hc5.2 dX7_begin_31 ?_
    refine z_chk (fun hc6 => ?_)
    refine z_iast (pc := 32) hR (n := 7) (kf_7_depth hq) hc6.1 hc6.2 dX7_begin_32 (fun M7 => ?_)
    refine z_aload_n (pc := 33) hR 0 dX7_begin_33 rfl rfl ?_
    refine z_getr (pc := 34) hR (c0 := 2) (r := (q + 2)) jf_RX7_15 hq (by decide) rfl rfl dX7_begin_34 ?_
    refine z_iload_n (pc := 37) hR 2 dX7_begin_37 rfl rfl ?_
    refine z_aload_n (pc := 38) hR 1 dX7_begin_38 rfl rfl ?_
    refine z_getr (pc := 39) hR (c0 := 2) (r := (a1 + 2)) jf_RX7_44 ha1 (by decide) rfl rfl dX7_begin_39 ?_
    refine z_iload_n (pc := 42) hR 2 dX7_begin_42 rfl rfl ?_
    refine z_chk (fun hc8 => ?_)
    refine z_iald (pc := 43) hR (n := 7) (kf_4_taste ha1) hc8.1 hc8.2 dX7_begin_43 ?_
    refine z_chk (fun hc9 => ?_)
    refine z_iast (pc := 44) hR (n := 7) (kf_7_taste hq) hc9.1 hc9.2 dX7_begin_44 (fun M10 => ?_)
    refine z_aload_n (pc := 45) hR 0 dX7_begin_45 rfl rfl ?_
    refine z_getr (pc := 46) hR (c0 := 3) (r := (q + 3)) jf_RX7_18 hq (by decide) rfl rfl dX7_begin_46 ?_
    refine z_iload_n (pc := 49) hR 2 dX7_begin_49 rfl rfl ?_
    refine z_aload_n (pc := 50) hR 1 dX7_begin_50 rfl rfl ?_
    refine z_getr (pc := 51) hR (c0 := 1) (r := (a1 + 1)) jf_RX7_43 ha1 (by decide) rfl rfl dX7_begin_51 ?_
    refine z_iload_n (pc := 54) hR 2 dX7_begin_54 rfl rfl ?_
    refine z_chk (fun hc11 => ?_)
    refine z_iald (pc := 55) hR (n := 7) (kf_4_depth ha1) hc11.1 hc11.2 dX7_begin_55 ?_
    refine z_chk (fun hc12 => ?_)
    refine z_iast (pc := 56) hR (n := 7) (kf_7_water hq) hc12.1 hc12.2 dX7_begin_56 (fun M13 => ?_)
    refine z_aload_n (pc := 57) hR 0 dX7_begin_57 rfl rfl ?_
    refine z_getr (pc := 58) hR (c0 := 4) (r := (q + 4)) jf_RX7_21 hq (by decide) rfl rfl dX7_begin_58 ?_
    refine z_iload_n (pc := 61) hR 2 dX7_begin_61 rfl rfl ?_
    refine z_iload_n (pc := 62) hR 2 dX7_begin_62 rfl rfl ?_
    refine z_chk (fun hc14 => ?_)
    refine z_iast (pc := 63) hR (n := 7) (kf_7_has hq) hc14.1 hc14.2 dX7_begin_63 (fun M15 => ?_)
    refine z_aload_n (pc := 64) hR 0 dX7_begin_64 rfl rfl ?_
    refine z_getr (pc := 65) hR (c0 := 5) (r := (q + 5)) jf_RX7_24 hq (by decide) rfl rfl dX7_begin_65 ?_
    refine z_iload_n (pc := 68) hR 2 dX7_begin_68 rfl rfl ?_
    refine z_aload_n (pc := 69) hR 1 dX7_begin_69 rfl rfl ?_
    refine z_getr (pc := 70) hR (c0 := 4) (r := (a1 + 4)) jf_RX7_45 ha1 (by decide) rfl rfl dX7_begin_70 ?_
    refine z_iload_n (pc := 73) hR 2 dX7_begin_73 rfl rfl ?_
    refine z_chk (fun hc16 => ?_)
    refine z_iald (pc := 74) hR (n := 7) (kf_4_heirs ha1) hc16.1 hc16.2 dX7_begin_74 ?_
    refine z_chk (fun hc17 => ?_)
    refine z_iast (pc := 75) hR (n := 7) (kf_7_heirs hq) hc17.1 hc17.2 dX7_begin_75 (fun M18 => ?_)
    refine z_iinc (pc := 76) hR (j := 2) (lv' := [(2, 0, (w32 (x3 + 1))), (0, 2, q), (1, 2, a1)]) dX7_begin_76 rfl (by decide) rfl ?_
    refine z_goto (pc := 79) (tgt := 15) hR dX7_begin_79 (by decide) ?_
    refine z_pick (pc := 15) (lv' := [(0, 2, q), (1, 2, a1), (2, 0, (w32 (x3 + 1)))]) hR [1, 2, 0] rfl ?_
    exact hh15 ((w32 (x3 + 1)), M18)
theorem dX3_clear_0 : decode cX3_clear 0 = .ok (.aload_n 0, 1) := by decide +kernel
theorem dX3_clear_1 : decode cX3_clear 1 = .ok (.iconst 0, 1) := by decide +kernel
theorem dX3_clear_2 : decode cX3_clear 2 = .ok (.putfield 21, 3) := by decide +kernel
theorem dX3_clear_5 : decode cX3_clear 5 = .ok (.return_, 1) := by decide +kernel
def No_clear (N : Nat) (q : Int) (M : jMem) : Option (Int × jMem) := jlt (up M q 0 0) fun M1 => some (0, M1)
theorem c_No_clear {l : Launch} {g : jG} (N : Nat) (q : Int) (M : jMem) (hq : jk jTX q 3) : ∀ o, No_clear N q M = some o → jCt l g jTX yX3_clear cX3_clear 1 none 3 1 [(2, q)] M o := by
  refine jMet (own := RX3) (em := id) (L := [(0, 2, q)]) (by decide +kernel) rfl (Nat.le_of_ble_eq_true rfl) rfl (fun K hR => ?_)
  unfold No_clear
  refine z_aload_n (pc := 0) hR 0 dX3_clear_0 rfl rfl ?_
  refine z_iconst (pc := 1) hR dX3_clear_1 rfl ?_
  refine z_puti (pc := 2) hR (j := 0) jp_RX3_21 hq (by decide) rfl rfl rfl rfl dX3_clear_2 (fun M1 => ?_)
  exact z_return (x := 0) (pc := 5) hR rfl rfl dX3_clear_5 rfl
theorem dX0_forget_0 : decode cX0_forget 0 = .ok (.aload_n 0, 1) := by decide +kernel
theorem dX0_forget_1 : decode cX0_forget 1 = .ok (.iconst 0, 1) := by decide +kernel
theorem dX0_forget_2 : decode cX0_forget 2 = .ok (.putfield 18, 3) := by decide +kernel
theorem dX0_forget_5 : decode cX0_forget 5 = .ok (.return_, 1) := by decide +kernel
def Ac_forget (N : Nat) (M : jMem) : Option (Int × jMem) := jlt (up M 31 2 0) fun M1 => some (0, M1)
theorem c_Ac_forget {l : Launch} {g : jG} (N : Nat) (M : jMem)  : ∀ o, Ac_forget N  M = some o → jCt l g jTX yX0_forget cX0_forget 1 none 3 1 [(2, 31)] M o := by
  refine jMet (own := RX0) (em := id) (L := [(0, 2, 31)]) (by decide +kernel) rfl (Nat.le_of_ble_eq_true rfl) rfl (fun K hR => ?_)
  unfold Ac_forget
  refine z_aload_n (pc := 0) hR 0 dX0_forget_0 rfl rfl ?_
  refine z_iconst (pc := 1) hR dX0_forget_1 rfl ?_
  refine z_puti (pc := 2) hR (j := 2) jp_RX0_18 kxo_31 (by decide) rfl rfl rfl rfl dX0_forget_2 (fun M1 => ?_)
  exact z_return (x := 0) (pc := 5) hR rfl rfl dX0_forget_5 rfl
theorem dX11_parish_0 : decode cX11_parish 0 = .ok (.aload_n 0, 1) := by decide +kernel
theorem dX11_parish_1 : decode cX11_parish 1 = .ok (.invokevirtual 88, 3) := by decide +kernel
theorem dX11_parish_4 : decode cX11_parish 4 = .ok (.aload_n 0, 1) := by decide +kernel
theorem dX11_parish_5 : decode cX11_parish 5 = .ok (.getfield 23, 3) := by decide +kernel
theorem dX11_parish_8 : decode cX11_parish 8 = .ok (.aload_n 0, 1) := by decide +kernel
theorem dX11_parish_9 : decode cX11_parish 9 = .ok (.getfield 16, 3) := by decide +kernel
theorem dX11_parish_12 : decode cX11_parish 12 = .ok (.invokevirtual 91, 3) := by decide +kernel
theorem dX11_parish_15 : decode cX11_parish 15 = .ok (.istore_n 1, 1) := by decide +kernel
theorem dX11_parish_16 : decode cX11_parish 16 = .ok (.iload_n 1, 1) := by decide +kernel
theorem dX11_parish_17 : decode cX11_parish 17 = .ok (.ifCond .eq 8, 3) := by decide +kernel
theorem dX11_parish_20 : decode cX11_parish 20 = .ok (.bipush (-2), 2) := by decide +kernel
theorem dX11_parish_22 : decode cX11_parish 22 = .ok (.iload_n 1, 1) := by decide +kernel
theorem dX11_parish_23 : decode cX11_parish 23 = .ok (.isub, 1) := by decide +kernel
theorem dX11_parish_24 : decode cX11_parish 24 = .ok (.ireturn, 1) := by decide +kernel
theorem dX11_parish_25 : decode cX11_parish 25 = .ok (.aload_n 0, 1) := by decide +kernel
theorem dX11_parish_26 : decode cX11_parish 26 = .ok (.getfield 43, 3) := by decide +kernel
theorem dX11_parish_29 : decode cX11_parish 29 = .ok (.getfield 95, 3) := by decide +kernel
theorem dX11_parish_32 : decode cX11_parish 32 = .ok (.aload_n 0, 1) := by decide +kernel
theorem dX11_parish_33 : decode cX11_parish 33 = .ok (.getfield 23, 3) := by decide +kernel
theorem dX11_parish_36 : decode cX11_parish 36 = .ok (.invokevirtual 98, 3) := by decide +kernel
theorem dX11_parish_39 : decode cX11_parish 39 = .ok (.aload_n 0, 1) := by decide +kernel
theorem dX11_parish_40 : decode cX11_parish 40 = .ok (.getfield 43, 3) := by decide +kernel
theorem dX11_parish_43 : decode cX11_parish 43 = .ok (.getfield 102, 3) := by decide +kernel
theorem dX11_parish_46 : decode cX11_parish 46 = .ok (.aload_n 0, 1) := by decide +kernel
theorem dX11_parish_47 : decode cX11_parish 47 = .ok (.getfield 23, 3) := by decide +kernel
theorem dX11_parish_50 : decode cX11_parish 50 = .ok (.invokevirtual 106, 3) := by decide +kernel
theorem dX11_parish_53 : decode cX11_parish 53 = .ok (.aload_n 0, 1) := by decide +kernel
theorem dX11_parish_54 : decode cX11_parish 54 = .ok (.getfield 43, 3) := by decide +kernel
theorem dX11_parish_57 : decode cX11_parish 57 = .ok (.getfield 111, 3) := by decide +kernel
theorem dX11_parish_60 : decode cX11_parish 60 = .ok (.invokevirtual 115, 3) := by decide +kernel
theorem dX11_parish_63 : decode cX11_parish 63 = .ok (.aload_n 0, 1) := by decide +kernel
theorem dX11_parish_64 : decode cX11_parish 64 = .ok (.getfield 50, 3) := by decide +kernel
theorem dX11_parish_67 : decode cX11_parish 67 = .ok (.invokevirtual 120, 3) := by decide +kernel
theorem dX11_parish_70 : decode cX11_parish 70 = .ok (.aload_n 0, 1) := by decide +kernel
theorem dX11_parish_71 : decode cX11_parish 71 = .ok (.getfield 23, 3) := by decide +kernel
theorem dX11_parish_74 : decode cX11_parish 74 = .ok (.getfield 123, 3) := by decide +kernel
theorem dX11_parish_77 : decode cX11_parish 77 = .ok (.ireturn, 1) := by decide +kernel
def x_parish (N : Nat) (M : jMem) : Option (Int × jMem) := jbv (x_cutTape N M) fun M1 => jb1 (Pa_readFrom N 6 M1) fun r2 M3 => (if r2 = 0 then jbv (Pa_copyFrom N 15 6 M3) fun M4 => jbv (St_begin N 21 6 M4) fun M5 => jbv (No_clear N 27 M5) fun M6 => jbv (Ac_forget N M6) fun M7 => some ((M7 6 0), M7) else some ((w32 (((-2)) - r2)), M3))
theorem c_x_parish {l : Launch} {g : jG} (N : Nat) (M : jMem)  : ∀ o, x_parish N  M = some o → jCt l g jTX yX11_parish cX11_parish 2 (some .int) 0 20 [(2, 0)] M o := by
  refine jMet (own := RX11) (em := id) (L := [(0, 2, 0)]) (by decide +kernel) rfl (Nat.le_of_ble_eq_true rfl) rfl (fun K hR => ?_)
  unfold x_parish
  refine z_aload_n (pc := 0) hR 0 dX11_parish_0 rfl rfl ?_
  refine z_callv0 (pc := 1) (rk' := 3) hR (As := []) (st := []) jm_X11_cutTape jl_RX11_88 kxo_0 (by decide) rfl (c_x_cutTape N M) rfl (by decide) (by decide) rfl (Nat.le_of_ble_eq_true rfl) dX11_parish_1 (fun M1 => ?_)
  refine z_aload_n (pc := 4) hR 0 dX11_parish_4 rfl rfl ?_
  refine z_getr (pc := 5) hR (c0 := 6) (r := 6) jf_RX11_23 kxo_0 (by decide) rfl rfl dX11_parish_5 ?_
  refine z_aload_n (pc := 8) hR 0 dX11_parish_8 rfl rfl ?_
  refine z_getr (pc := 9) hR (c0 := 2) (r := 2) jf_RX11_16 kxo_0 (by decide) rfl rfl dX11_parish_9 ?_
  refine z_callv1 (pc := 12) hR (As := [(2, 2)]) (st := []) jm_X4_readFrom jl_RX11_91 kxo_6 (by decide) rfl (by decide) (c_Pa_readFrom N 6 M1 kxo_6) rfl (by decide) (by decide) rfl (Nat.le_of_ble_eq_true rfl) dX11_parish_12 (fun r2 M3 => ?_)
  refine z_istore_n (pc := 15) hR (lv' := [(1, 0, r2), (0, 2, 0)]) dX11_parish_15 rfl (by decide) rfl ?_
  refine z_iload_n (pc := 16) hR 0 dX11_parish_16 rfl rfl ?_
  refine z_ifeq (pc := 17) (tgt := 25) hR dX11_parish_17 (by decide) ?_ ?_
  · refine z_aload_n (pc := 25) hR 1 dX11_parish_25 rfl rfl ?_
    refine z_getr (pc := 26) hR (c0 := 14) (r := 14) jf_RX11_43 kxo_0 (by decide) rfl rfl dX11_parish_26 ?_
    refine z_getr (pc := 29) hR (c0 := 1) (r := 15) jf_RX11_95 kxo_14 (by decide) rfl rfl dX11_parish_29 ?_
    refine z_aload_n (pc := 32) hR 1 dX11_parish_32 rfl rfl ?_
    refine z_getr (pc := 33) hR (c0 := 6) (r := 6) jf_RX11_23 kxo_0 (by decide) rfl rfl dX11_parish_33 ?_
    refine z_callv0 (pc := 36) (rk' := 3) hR (As := [(2, 6)]) (st := []) jm_X4_copyFrom jl_RX11_98 kxo_15 (by decide) rfl (c_Pa_copyFrom N 15 6 M3 kxo_15 kxo_6) rfl (by decide) (by decide) rfl (Nat.le_of_ble_eq_true rfl) dX11_parish_36 (fun M4 => ?_)
    refine z_aload_n (pc := 39) hR 1 dX11_parish_39 rfl rfl ?_
    refine z_getr (pc := 40) hR (c0 := 14) (r := 14) jf_RX11_43 kxo_0 (by decide) rfl rfl dX11_parish_40 ?_
    refine z_getr (pc := 43) hR (c0 := 7) (r := 21) jf_RX11_102 kxo_14 (by decide) rfl rfl dX11_parish_43 ?_
    refine z_aload_n (pc := 46) hR 1 dX11_parish_46 rfl rfl ?_
    refine z_getr (pc := 47) hR (c0 := 6) (r := 6) jf_RX11_23 kxo_0 (by decide) rfl rfl dX11_parish_47 ?_
    refine z_callv0 (pc := 50) (rk' := 3) hR (As := [(2, 6)]) (st := []) jm_X7_begin jl_RX11_106 kxo_21 (by decide) rfl (c_St_begin N 21 6 M4 kxo_21 kxo_6) rfl (by decide) (by decide) rfl (Nat.le_of_ble_eq_true rfl) dX11_parish_50 (fun M5 => ?_)
    refine z_aload_n (pc := 53) hR 1 dX11_parish_53 rfl rfl ?_
    refine z_getr (pc := 54) hR (c0 := 14) (r := 14) jf_RX11_43 kxo_0 (by decide) rfl rfl dX11_parish_54 ?_
    refine z_getr (pc := 57) hR (c0 := 13) (r := 27) jf_RX11_111 kxo_14 (by decide) rfl rfl dX11_parish_57 ?_
    refine z_callv0 (pc := 60) (rk' := 3) hR (As := []) (st := []) jm_X3_clear jl_RX11_115 kxo_27 (by decide) rfl (c_No_clear N 27 M5 kxo_27) rfl (by decide) (by decide) rfl (Nat.le_of_ble_eq_true rfl) dX11_parish_60 (fun M6 => ?_)
    refine z_aload_n (pc := 63) hR 1 dX11_parish_63 rfl rfl ?_
    refine z_getr (pc := 64) hR (c0 := 31) (r := 31) jf_RX11_50 kxo_0 (by decide) rfl rfl dX11_parish_64 ?_
    refine z_callv0 (pc := 67) (rk' := 3) hR (As := []) (st := []) jm_X0_forget jl_RX11_120 kxo_31 (by decide) rfl (c_Ac_forget N M6) rfl (by decide) (by decide) rfl (Nat.le_of_ble_eq_true rfl) dX11_parish_67 (fun M7 => ?_)
    refine z_aload_n (pc := 70) hR 1 dX11_parish_70 rfl rfl ?_
    refine z_getr (pc := 71) hR (c0 := 6) (r := 6) jf_RX11_23 kxo_0 (by decide) rfl rfl dX11_parish_71 ?_
    refine z_geti (pc := 74) hR (j := 0) jf_RX11_123 kxo_6 (by decide) rfl rfl dX11_parish_74 ?_
    exact z_ireturn (pc := 77) hR rfl rfl dX11_parish_77 rfl
  · refine z_bipush (pc := 20) hR dX11_parish_20 rfl ?_
    refine z_iload_n (pc := 22) hR 0 dX11_parish_22 rfl rfl ?_
    refine z_isub (pc := 23) hR dX11_parish_23 ?_
    exact z_ireturn (pc := 24) hR rfl rfl dX11_parish_24 rfl
theorem dX5_clear_0 : decode cX5_clear 0 = .ok (.aload_n 0, 1) := by decide +kernel
theorem dX5_clear_1 : decode cX5_clear 1 = .ok (.iconst 0, 1) := by decide +kernel
theorem dX5_clear_2 : decode cX5_clear 2 = .ok (.putfield 28, 3) := by decide +kernel
theorem dX5_clear_5 : decode cX5_clear 5 = .ok (.aload_n 0, 1) := by decide +kernel
theorem dX5_clear_6 : decode cX5_clear 6 = .ok (.iconst 0, 1) := by decide +kernel
theorem dX5_clear_7 : decode cX5_clear 7 = .ok (.putfield 32, 3) := by decide +kernel
theorem dX5_clear_10 : decode cX5_clear 10 = .ok (.return_, 1) := by decide +kernel
def Ru_clear (N : Nat) (q : Int) (M : jMem) : Option (Int × jMem) := jlt (up M q 1 0) fun M1 => jlt (up M1 q 5 0) fun M2 => some (0, M2)
theorem c_Ru_clear {l : Launch} {g : jG} (N : Nat) (q : Int) (M : jMem) (hq : jk jTX q 5) : ∀ o, Ru_clear N q M = some o → jCt l g jTX yX5_clear cX5_clear 1 none 3 1 [(2, q)] M o := by
  refine jMet (own := RX5) (em := id) (L := [(0, 2, q)]) (by decide +kernel) rfl (Nat.le_of_ble_eq_true rfl) rfl (fun K hR => ?_)
  unfold Ru_clear
  refine z_aload_n (pc := 0) hR 0 dX5_clear_0 rfl rfl ?_
  refine z_iconst (pc := 1) hR dX5_clear_1 rfl ?_
  refine z_puti (pc := 2) hR (j := 1) jp_RX5_28 hq (by decide) rfl rfl rfl rfl dX5_clear_2 (fun M1 => ?_)
  refine z_aload_n (pc := 5) hR 0 dX5_clear_5 rfl rfl ?_
  refine z_iconst (pc := 6) hR dX5_clear_6 rfl ?_
  refine z_puti (pc := 7) hR (j := 5) jp_RX5_32 hq (by decide) rfl rfl rfl rfl dX5_clear_7 (fun M2 => ?_)
  exact z_return (x := 0) (pc := 10) hR rfl rfl dX5_clear_10 rfl
theorem dX6_takeWed_0 : decode cX6_takeWed 0 = .ok (.aload_n 0, 1) := by decide +kernel
theorem dX6_takeWed_1 : decode cX6_takeWed 1 = .ok (.getfield 9, 3) := by decide +kernel
theorem dX6_takeWed_4 : decode cX6_takeWed 4 = .ok (.invokevirtual 59, 3) := by decide +kernel
theorem dX6_takeWed_7 : decode cX6_takeWed 7 = .ok (.bipush 21, 2) := by decide +kernel
theorem dX6_takeWed_9 : decode cX6_takeWed 9 = .ok (.if_icmp .eq 14, 3) := by decide +kernel
theorem dX6_takeWed_12 : decode cX6_takeWed 12 = .ok (.aload_n 0, 1) := by decide +kernel
theorem dX6_takeWed_13 : decode cX6_takeWed 13 = .ok (.getfield 9, 3) := by decide +kernel
theorem dX6_takeWed_16 : decode cX6_takeWed 16 = .ok (.iconst 0, 1) := by decide +kernel
theorem dX6_takeWed_17 : decode cX6_takeWed 17 = .ok (.invokevirtual 63, 3) := by decide +kernel
theorem dX6_takeWed_20 : decode cX6_takeWed 20 = .ok (.goto 27, 3) := by decide +kernel
theorem dX6_takeWed_23 : decode cX6_takeWed 23 = .ok (.iload_n 1, 1) := by decide +kernel
theorem dX6_takeWed_24 : decode cX6_takeWed 24 = .ok (.bipush 12, 2) := by decide +kernel
theorem dX6_takeWed_26 : decode cX6_takeWed 26 = .ok (.if_icmp .lt 14, 3) := by decide +kernel
theorem dX6_takeWed_29 : decode cX6_takeWed 29 = .ok (.aload_n 0, 1) := by decide +kernel
theorem dX6_takeWed_30 : decode cX6_takeWed 30 = .ok (.getfield 9, 3) := by decide +kernel
theorem dX6_takeWed_33 : decode cX6_takeWed 33 = .ok (.iconst 4, 1) := by decide +kernel
theorem dX6_takeWed_34 : decode cX6_takeWed 34 = .ok (.invokevirtual 63, 3) := by decide +kernel
theorem dX6_takeWed_37 : decode cX6_takeWed 37 = .ok (.goto 10, 3) := by decide +kernel
theorem dX6_takeWed_40 : decode cX6_takeWed 40 = .ok (.aload_n 0, 1) := by decide +kernel
theorem dX6_takeWed_41 : decode cX6_takeWed 41 = .ok (.getfield 9, 3) := by decide +kernel
theorem dX6_takeWed_44 : decode cX6_takeWed 44 = .ok (.invokevirtual 66, 3) := by decide +kernel
theorem dX6_takeWed_47 : decode cX6_takeWed 47 = .ok (.return_, 1) := by decide +kernel
def Rr_takeWed (N : Nat) (a1 : Int) (M : jMem) : Option (Int × jMem) := jchk (M 12 0 = 2) <| (To_looked N M).bind fun r2 => (if r2 = 21 then (if a1 < 12 then jchk (M 12 0 = 2) <| jbv (To_move N M) fun M4 => some (0, M4) else jchk (M 12 0 = 2) <| jbv (To_fail N 4 M) fun M6 => some (0, M6)) else jchk (M 12 0 = 2) <| jbv (To_fail N 0 M) fun M8 => some (0, M8))
theorem c_Rr_takeWed {l : Launch} {g : jG} (N : Nat) (a1 : Int) (M : jMem)  : ∀ o, Rr_takeWed N a1 M = some o → jCt l g jTX yX6_takeWed cX6_takeWed 2 none 3 3 [(2, 12), (0, a1)] M o := by
  refine jMet (own := RX6) (em := id) (L := [(0, 2, 12), (1, 0, a1)]) (by decide +kernel) rfl (Nat.le_of_ble_eq_true rfl) rfl (fun K hR => ?_)
  unfold Rr_takeWed
  refine z_aload_n (pc := 0) hR 0 dX6_takeWed_0 rfl rfl ?_
  refine z_getm (pc := 1) hR (j := 0) jf_RX6_9 kxo_12 (by decide) rfl rfl dX6_takeWed_1 ?_
  refine z_chk (fun hc1 => ?_)
  refine z_cast hc1 ?_
  refine z_callvp (pc := 4) hR (As := []) (st := []) jm_X8_looked jl_RX6_59 kxo_2 (by decide) rfl (by decide) (c_To_looked N M) rfl (by decide) (by decide) rfl (Nat.le_of_ble_eq_true rfl) dX6_takeWed_4 (fun r2 => ?_)
  refine z_bipush (pc := 7) hR dX6_takeWed_7 rfl ?_
  refine z_icmpeq (pc := 9) (tgt := 23) hR dX6_takeWed_9 (by decide) ?_ ?_
  · refine z_iload_n (pc := 23) hR 1 dX6_takeWed_23 rfl rfl ?_
    refine z_bipush (pc := 24) hR dX6_takeWed_24 rfl ?_
    refine z_icmplt (pc := 26) (tgt := 40) hR dX6_takeWed_26 (by decide) ?_ ?_
    · refine z_aload_n (pc := 40) hR 0 dX6_takeWed_40 rfl rfl ?_
      refine z_getm (pc := 41) hR (j := 0) jf_RX6_9 kxo_12 (by decide) rfl rfl dX6_takeWed_41 ?_
      refine z_chk (fun hc3 => ?_)
      refine z_cast hc3 ?_
      refine z_callv0 (pc := 44) (rk' := 3) hR (As := []) (st := []) jm_X8_move jl_RX6_66 kxo_2 (by decide) rfl (c_To_move N M) rfl (by decide) (by decide) rfl (Nat.le_of_ble_eq_true rfl) dX6_takeWed_44 (fun M4 => ?_)
      exact z_return (x := 0) (pc := 47) hR rfl rfl dX6_takeWed_47 rfl
    · refine z_aload_n (pc := 29) hR 0 dX6_takeWed_29 rfl rfl ?_
      refine z_getm (pc := 30) hR (j := 0) jf_RX6_9 kxo_12 (by decide) rfl rfl dX6_takeWed_30 ?_
      refine z_chk (fun hc5 => ?_)
      refine z_cast hc5 ?_
      refine z_iconst (pc := 33) hR dX6_takeWed_33 rfl ?_
      refine z_callv0 (pc := 34) (rk' := 3) hR (As := [(0, 4)]) (st := []) jm_X8_fail jl_RX6_63 kxo_2 (by decide) rfl (c_To_fail N 4 M) rfl (by decide) (by decide) rfl (Nat.le_of_ble_eq_true rfl) dX6_takeWed_34 (fun M6 => ?_)
      refine z_goto (pc := 37) (tgt := 47) hR dX6_takeWed_37 (by decide) ?_
      exact z_return (x := 0) (pc := 47) hR rfl rfl dX6_takeWed_47 rfl
  · refine z_aload_n (pc := 12) hR 0 dX6_takeWed_12 rfl rfl ?_
    refine z_getm (pc := 13) hR (j := 0) jf_RX6_9 kxo_12 (by decide) rfl rfl dX6_takeWed_13 ?_
    refine z_chk (fun hc7 => ?_)
    refine z_cast hc7 ?_
    refine z_iconst (pc := 16) hR dX6_takeWed_16 rfl ?_
    refine z_callv0 (pc := 17) (rk' := 3) hR (As := [(0, 0)]) (st := []) jm_X8_fail jl_RX6_63 kxo_2 (by decide) rfl (c_To_fail N 0 M) rfl (by decide) (by decide) rfl (Nat.le_of_ble_eq_true rfl) dX6_takeWed_17 (fun M8 => ?_)
    refine z_goto (pc := 20) (tgt := 47) hR dX6_takeWed_20 (by decide) ?_
    exact z_return (x := 0) (pc := 47) hR rfl rfl dX6_takeWed_47 rfl
theorem dX5_openClause_0 : decode cX5_openClause 0 = .ok (.aload_n 0, 1) := by decide +kernel
theorem dX5_openClause_1 : decode cX5_openClause 1 = .ok (.getfield 32, 3) := by decide +kernel
theorem dX5_openClause_4 : decode cX5_openClause 4 = .ok (.bipush 12, 2) := by decide +kernel
theorem dX5_openClause_6 : decode cX5_openClause 6 = .ok (.if_icmp .ge 16, 3) := by decide +kernel
theorem dX5_openClause_9 : decode cX5_openClause 9 = .ok (.aload_n 0, 1) := by decide +kernel
theorem dX5_openClause_10 : decode cX5_openClause 10 = .ok (.getfield 15, 3) := by decide +kernel
theorem dX5_openClause_13 : decode cX5_openClause 13 = .ok (.aload_n 0, 1) := by decide +kernel
theorem dX5_openClause_14 : decode cX5_openClause 14 = .ok (.getfield 32, 3) := by decide +kernel
theorem dX5_openClause_17 : decode cX5_openClause 17 = .ok (.aload_n 0, 1) := by decide +kernel
theorem dX5_openClause_18 : decode cX5_openClause 18 = .ok (.getfield 28, 3) := by decide +kernel
theorem dX5_openClause_21 : decode cX5_openClause 21 = .ok (.iastore, 1) := by decide +kernel
theorem dX5_openClause_22 : decode cX5_openClause 22 = .ok (.return_, 1) := by decide +kernel
def Ru_openClause (N : Nat) (q : Int) (M : jMem) : Option (Int × jMem) := (if (M q 5) < 12 then jchk (0 ≤ (M q 5) ∧ (M q 5) < 12) <| jlt (up M ((q + 2)) ((M q 5)) ((M q 1))) fun M2 => some (0, M2) else some (0, M))
theorem c_Ru_openClause {l : Launch} {g : jG} (N : Nat) (q : Int) (M : jMem) (hq : jk jTX q 5) : ∀ o, Ru_openClause N q M = some o → jCt l g jTX yX5_openClause cX5_openClause 1 none 3 1 [(2, q)] M o := by
  refine jMet (own := RX5) (em := id) (L := [(0, 2, q)]) (by decide +kernel) rfl (Nat.le_of_ble_eq_true rfl) rfl (fun K hR => ?_)
  unfold Ru_openClause
  refine z_aload_n (pc := 0) hR 0 dX5_openClause_0 rfl rfl ?_
  refine z_geti (pc := 1) hR (j := 5) jf_RX5_32 hq (by decide) rfl rfl dX5_openClause_1 ?_
  refine z_bipush (pc := 4) hR dX5_openClause_4 rfl ?_
  refine z_icmpge (pc := 6) (tgt := 22) hR dX5_openClause_6 (by decide) ?_ ?_
  · exact z_return (x := 0) (pc := 22) hR rfl rfl dX5_openClause_22 rfl
  · refine z_aload_n (pc := 9) hR 0 dX5_openClause_9 rfl rfl ?_
    refine z_getr (pc := 10) hR (c0 := 2) (r := (q + 2)) jf_RX5_15 hq (by decide) rfl rfl dX5_openClause_10 ?_
    refine z_aload_n (pc := 13) hR 0 dX5_openClause_13 rfl rfl ?_
    refine z_geti (pc := 14) hR (j := 5) jf_RX5_32 hq (by decide) rfl rfl dX5_openClause_14 ?_
    refine z_aload_n (pc := 17) hR 0 dX5_openClause_17 rfl rfl ?_
    refine z_geti (pc := 18) hR (j := 1) jf_RX5_28 hq (by decide) rfl rfl dX5_openClause_18 ?_
    refine z_chk (fun hc1 => ?_)
    refine z_iast (pc := 21) hR (n := 12) (kf_5_sumFrom hq) hc1.1 hc1.2 dX5_openClause_21 (fun M2 => ?_)
    exact z_return (x := 0) (pc := 22) hR rfl rfl dX5_openClause_22 rfl
theorem dX5_push_0 : decode cX5_push 0 = .ok (.aload_n 0, 1) := by decide +kernel
theorem dX5_push_1 : decode cX5_push 1 = .ok (.getfield 28, 3) := by decide +kernel
theorem dX5_push_4 : decode cX5_push 4 = .ok (.sipush 400, 3) := by decide +kernel
theorem dX5_push_7 : decode cX5_push 7 = .ok (.if_icmp .ge 23, 3) := by decide +kernel
theorem dX5_push_10 : decode cX5_push 10 = .ok (.aload_n 0, 1) := by decide +kernel
theorem dX5_push_11 : decode cX5_push 11 = .ok (.getfield 9, 3) := by decide +kernel
theorem dX5_push_14 : decode cX5_push 14 = .ok (.aload_n 0, 1) := by decide +kernel
theorem dX5_push_15 : decode cX5_push 15 = .ok (.getfield 28, 3) := by decide +kernel
theorem dX5_push_18 : decode cX5_push 18 = .ok (.iload_n 1, 1) := by decide +kernel
theorem dX5_push_19 : decode cX5_push 19 = .ok (.iastore, 1) := by decide +kernel
theorem dX5_push_20 : decode cX5_push 20 = .ok (.aload_n 0, 1) := by decide +kernel
theorem dX5_push_21 : decode cX5_push 21 = .ok (.dup, 1) := by decide +kernel
theorem dX5_push_22 : decode cX5_push 22 = .ok (.getfield 28, 3) := by decide +kernel
theorem dX5_push_25 : decode cX5_push 25 = .ok (.iconst 1, 1) := by decide +kernel
theorem dX5_push_26 : decode cX5_push 26 = .ok (.iadd, 1) := by decide +kernel
theorem dX5_push_27 : decode cX5_push 27 = .ok (.putfield 28, 3) := by decide +kernel
theorem dX5_push_30 : decode cX5_push 30 = .ok (.return_, 1) := by decide +kernel
def Ru_push (N : Nat) (q a1 : Int) (M : jMem) : Option (Int × jMem) := (if (M q 1) < 400 then jchk (0 ≤ (M q 1) ∧ (M q 1) < 400) <| jlt (up M ((q + 1)) ((M q 1)) a1) fun M2 => jlt (up M2 q 1 ((w32 (((M2 q 1)) + 1)))) fun M3 => some (0, M3) else some (0, M))
theorem c_Ru_push {l : Launch} {g : jG} (N : Nat) (q a1 : Int) (M : jMem) (hq : jk jTX q 5) : ∀ o, Ru_push N q a1 M = some o → jCt l g jTX yX5_push cX5_push 2 none 3 1 [(2, q), (0, a1)] M o := by
  refine jMet (own := RX5) (em := id) (L := [(0, 2, q), (1, 0, a1)]) (by decide +kernel) rfl (Nat.le_of_ble_eq_true rfl) rfl (fun K hR => ?_)
  unfold Ru_push
  refine z_aload_n (pc := 0) hR 0 dX5_push_0 rfl rfl ?_
  refine z_geti (pc := 1) hR (j := 1) jf_RX5_28 hq (by decide) rfl rfl dX5_push_1 ?_
  refine z_sipush (pc := 4) hR dX5_push_4 rfl ?_
  refine z_icmpge (pc := 7) (tgt := 30) hR dX5_push_7 (by decide) ?_ ?_
  · exact z_return (x := 0) (pc := 30) hR rfl rfl dX5_push_30 rfl
  · refine z_aload_n (pc := 10) hR 0 dX5_push_10 rfl rfl ?_
    refine z_getr (pc := 11) hR (c0 := 1) (r := (q + 1)) jf_RX5_9 hq (by decide) rfl rfl dX5_push_11 ?_
    refine z_aload_n (pc := 14) hR 0 dX5_push_14 rfl rfl ?_
    refine z_geti (pc := 15) hR (j := 1) jf_RX5_28 hq (by decide) rfl rfl dX5_push_15 ?_
    refine z_iload_n (pc := 18) hR 1 dX5_push_18 rfl rfl ?_
    refine z_chk (fun hc1 => ?_)
    refine z_iast (pc := 19) hR (n := 400) (kf_5_code hq) hc1.1 hc1.2 dX5_push_19 (fun M2 => ?_)
    refine z_aload_n (pc := 20) hR 0 dX5_push_20 rfl rfl ?_
    refine z_dup (pc := 21) hR dX5_push_21 (by decide) ?_
    refine z_geti (pc := 22) hR (j := 1) jf_RX5_28 hq (by decide) rfl rfl dX5_push_22 ?_
    refine z_iconst (pc := 25) hR dX5_push_25 rfl ?_
    refine z_iadd (pc := 26) hR dX5_push_26 ?_
    refine z_puti (pc := 27) hR (j := 1) jp_RX5_28 hq (by decide) rfl rfl rfl rfl dX5_push_27 (fun M3 => ?_)
    exact z_return (x := 0) (pc := 30) hR rfl rfl dX5_push_30 rfl
theorem dX6_takeCounted_0 : decode cX6_takeCounted 0 = .ok (.aload_n 0, 1) := by decide +kernel
theorem dX6_takeCounted_1 : decode cX6_takeCounted 1 = .ok (.dup, 1) := by decide +kernel
theorem dX6_takeCounted_2 : decode cX6_takeCounted 2 = .ok (.getfield 24, 3) := by decide +kernel
theorem dX6_takeCounted_5 : decode cX6_takeCounted 5 = .ok (.iconst 1, 1) := by decide +kernel
theorem dX6_takeCounted_6 : decode cX6_takeCounted 6 = .ok (.iadd, 1) := by decide +kernel
theorem dX6_takeCounted_7 : decode cX6_takeCounted 7 = .ok (.putfield 24, 3) := by decide +kernel
theorem dX6_takeCounted_10 : decode cX6_takeCounted 10 = .ok (.aload_n 0, 1) := by decide +kernel
theorem dX6_takeCounted_11 : decode cX6_takeCounted 11 = .ok (.getfield 24, 3) := by decide +kernel
theorem dX6_takeCounted_14 : decode cX6_takeCounted 14 = .ok (.bipush 60, 2) := by decide +kernel
theorem dX6_takeCounted_16 : decode cX6_takeCounted 16 = .ok (.if_icmp .le 14, 3) := by decide +kernel
theorem dX6_takeCounted_19 : decode cX6_takeCounted 19 = .ok (.aload_n 0, 1) := by decide +kernel
theorem dX6_takeCounted_20 : decode cX6_takeCounted 20 = .ok (.getfield 9, 3) := by decide +kernel
theorem dX6_takeCounted_23 : decode cX6_takeCounted 23 = .ok (.iconst 3, 1) := by decide +kernel
theorem dX6_takeCounted_24 : decode cX6_takeCounted 24 = .ok (.invokevirtual 63, 3) := by decide +kernel
theorem dX6_takeCounted_27 : decode cX6_takeCounted 27 = .ok (.goto 10, 3) := by decide +kernel
theorem dX6_takeCounted_30 : decode cX6_takeCounted 30 = .ok (.aload_n 0, 1) := by decide +kernel
theorem dX6_takeCounted_31 : decode cX6_takeCounted 31 = .ok (.getfield 9, 3) := by decide +kernel
theorem dX6_takeCounted_34 : decode cX6_takeCounted 34 = .ok (.invokevirtual 66, 3) := by decide +kernel
theorem dX6_takeCounted_37 : decode cX6_takeCounted 37 = .ok (.return_, 1) := by decide +kernel
def Rr_takeCounted (N : Nat) (M : jMem) : Option (Int × jMem) := jlt (up M 12 2 ((w32 (((M 12 2)) + 1)))) fun M1 => (if 60 < (M1 12 2) then jchk (M1 12 0 = 2) <| jbv (To_fail N 3 M1) fun M5 => some (0, M5) else jchk (M1 12 0 = 2) <| jbv (To_move N M1) fun M3 => some (0, M3))
theorem c_Rr_takeCounted {l : Launch} {g : jG} (N : Nat) (M : jMem)  : ∀ o, Rr_takeCounted N  M = some o → jCt l g jTX yX6_takeCounted cX6_takeCounted 1 none 3 3 [(2, 12)] M o := by
  refine jMet (own := RX6) (em := id) (L := [(0, 2, 12)]) (by decide +kernel) rfl (Nat.le_of_ble_eq_true rfl) rfl (fun K hR => ?_)
  unfold Rr_takeCounted
  refine z_aload_n (pc := 0) hR 0 dX6_takeCounted_0 rfl rfl ?_
  refine z_dup (pc := 1) hR dX6_takeCounted_1 (by decide) ?_
  refine z_geti (pc := 2) hR (j := 2) jf_RX6_24 kxo_12 (by decide) rfl rfl dX6_takeCounted_2 ?_
  refine z_iconst (pc := 5) hR dX6_takeCounted_5 rfl ?_
  refine z_iadd (pc := 6) hR dX6_takeCounted_6 ?_
  refine z_puti (pc := 7) hR (j := 2) jp_RX6_24 kxo_12 (by decide) rfl rfl rfl rfl dX6_takeCounted_7 (fun M1 => ?_)
  refine z_aload_n (pc := 10) hR 0 dX6_takeCounted_10 rfl rfl ?_
  refine z_geti (pc := 11) hR (j := 2) jf_RX6_24 kxo_12 (by decide) rfl rfl dX6_takeCounted_11 ?_
  refine z_bipush (pc := 14) hR dX6_takeCounted_14 rfl ?_
  refine z_icmple (pc := 16) (tgt := 30) hR dX6_takeCounted_16 (by decide) ?_ ?_
  · refine z_aload_n (pc := 30) hR 0 dX6_takeCounted_30 rfl rfl ?_
    refine z_getm (pc := 31) hR (j := 0) jf_RX6_9 kxo_12 (by decide) rfl rfl dX6_takeCounted_31 ?_
    refine z_chk (fun hc2 => ?_)
    refine z_cast hc2 ?_
    refine z_callv0 (pc := 34) (rk' := 3) hR (As := []) (st := []) jm_X8_move jl_RX6_66 kxo_2 (by decide) rfl (c_To_move N M1) rfl (by decide) (by decide) rfl (Nat.le_of_ble_eq_true rfl) dX6_takeCounted_34 (fun M3 => ?_)
    exact z_return (x := 0) (pc := 37) hR rfl rfl dX6_takeCounted_37 rfl
  · refine z_aload_n (pc := 19) hR 0 dX6_takeCounted_19 rfl rfl ?_
    refine z_getm (pc := 20) hR (j := 0) jf_RX6_9 kxo_12 (by decide) rfl rfl dX6_takeCounted_20 ?_
    refine z_chk (fun hc4 => ?_)
    refine z_cast hc4 ?_
    refine z_iconst (pc := 23) hR dX6_takeCounted_23 rfl ?_
    refine z_callv0 (pc := 24) (rk' := 3) hR (As := [(0, 3)]) (st := []) jm_X8_fail jl_RX6_63 kxo_2 (by decide) rfl (c_To_fail N 3 M1) rfl (by decide) (by decide) rfl (Nat.le_of_ble_eq_true rfl) dX6_takeCounted_24 (fun M5 => ?_)
    refine z_goto (pc := 27) (tgt := 37) hR dX6_takeCounted_27 (by decide) ?_
    exact z_return (x := 0) (pc := 37) hR rfl rfl dX6_takeCounted_37 rfl
theorem dX5_apply_0 : decode cX5_apply 0 = .ok (.aload_n 0, 1) := by decide +kernel
theorem dX5_apply_1 : decode cX5_apply 1 = .ok (.iload_n 1, 1) := by decide +kernel
theorem dX5_apply_2 : decode cX5_apply 2 = .ok (.ineg, 1) := by decide +kernel
theorem dX5_apply_3 : decode cX5_apply 3 = .ok (.invokevirtual 35, 3) := by decide +kernel
theorem dX5_apply_6 : decode cX5_apply 6 = .ok (.return_, 1) := by decide +kernel
def Ru_apply (N : Nat) (q a1 : Int) (M : jMem) : Option (Int × jMem) := jbv (Ru_push N q ((w32 (-a1))) M) fun M1 => some (0, M1)
theorem c_Ru_apply {l : Launch} {g : jG} (N : Nat) (q a1 : Int) (M : jMem) (hq : jk jTX q 5) : ∀ o, Ru_apply N q a1 M = some o → jCt l g jTX yX5_apply cX5_apply 2 none 3 3 [(2, q), (0, a1)] M o := by
  refine jMet (own := RX5) (em := id) (L := [(0, 2, q), (1, 0, a1)]) (by decide +kernel) rfl (Nat.le_of_ble_eq_true rfl) rfl (fun K hR => ?_)
  unfold Ru_apply
  refine z_aload_n (pc := 0) hR 0 dX5_apply_0 rfl rfl ?_
  refine z_iload_n (pc := 1) hR 1 dX5_apply_1 rfl rfl ?_
  refine z_ineg (pc := 2) hR dX5_apply_2 ?_
  refine z_callv0 (pc := 3) (rk' := 3) hR (As := [(0, (w32 (-a1)))]) (st := []) jm_X5_push jl_RX5_35 hq (by decide) rfl (c_Ru_push N q ((w32 (-a1))) M hq) rfl (by decide) (by decide) rfl (Nat.le_of_ble_eq_true rfl) dX5_apply_3 (fun M1 => ?_)
  exact z_return (x := 0) (pc := 6) hR rfl rfl dX5_apply_6 rfl
theorem dX6_readValue_0 : decode cX6_readValue 0 = .ok (.aload_n 0, 1) := by decide +kernel
theorem dX6_readValue_1 : decode cX6_readValue 1 = .ok (.getfield 9, 3) := by decide +kernel
theorem dX6_readValue_4 : decode cX6_readValue 4 = .ok (.invokevirtual 59, 3) := by decide +kernel
theorem dX6_readValue_7 : decode cX6_readValue 7 = .ok (.istore_n 1, 1) := by decide +kernel
theorem dX6_readValue_8 : decode cX6_readValue 8 = .ok (.iload_n 1, 1) := by decide +kernel
theorem dX6_readValue_9 : decode cX6_readValue 9 = .ok (.iconst 2, 1) := by decide +kernel
theorem dX6_readValue_10 : decode cX6_readValue 10 = .ok (.if_icmp .ne 14, 3) := by decide +kernel
theorem dX6_readValue_13 : decode cX6_readValue 13 = .ok (.aload_n 0, 1) := by decide +kernel
theorem dX6_readValue_14 : decode cX6_readValue 14 = .ok (.getfield 9, 3) := by decide +kernel
theorem dX6_readValue_17 : decode cX6_readValue 17 = .ok (.iconst 1, 1) := by decide +kernel
theorem dX6_readValue_18 : decode cX6_readValue 18 = .ok (.invokevirtual 63, 3) := by decide +kernel
theorem dX6_readValue_21 : decode cX6_readValue 21 = .ok (.goto 66, 3) := by decide +kernel
theorem dX6_readValue_24 : decode cX6_readValue 24 = .ok (.iload_n 1, 1) := by decide +kernel
theorem dX6_readValue_25 : decode cX6_readValue 25 = .ok (.iconst 1, 1) := by decide +kernel
theorem dX6_readValue_26 : decode cX6_readValue 26 = .ok (.if_icmp .ne 32, 3) := by decide +kernel
theorem dX6_readValue_29 : decode cX6_readValue 29 = .ok (.aload_n 0, 1) := by decide +kernel
theorem dX6_readValue_30 : decode cX6_readValue 30 = .ok (.getfield 15, 3) := by decide +kernel
theorem dX6_readValue_33 : decode cX6_readValue 33 = .ok (.aload_n 0, 1) := by decide +kernel
theorem dX6_readValue_34 : decode cX6_readValue 34 = .ok (.getfield 9, 3) := by decide +kernel
theorem dX6_readValue_37 : decode cX6_readValue 37 = .ok (.getfield 84, 3) := by decide +kernel
theorem dX6_readValue_40 : decode cX6_readValue 40 = .ok (.aload_n 0, 1) := by decide +kernel
theorem dX6_readValue_41 : decode cX6_readValue 41 = .ok (.getfield 9, 3) := by decide +kernel
theorem dX6_readValue_44 : decode cX6_readValue 44 = .ok (.getfield 88, 3) := by decide +kernel
theorem dX6_readValue_47 : decode cX6_readValue 47 = .ok (.iaload, 1) := by decide +kernel
theorem dX6_readValue_48 : decode cX6_readValue 48 = .ok (.invokevirtual 91, 3) := by decide +kernel
theorem dX6_readValue_51 : decode cX6_readValue 51 = .ok (.aload_n 0, 1) := by decide +kernel
theorem dX6_readValue_52 : decode cX6_readValue 52 = .ok (.invokevirtual 78, 3) := by decide +kernel
theorem dX6_readValue_55 : decode cX6_readValue 55 = .ok (.goto 32, 3) := by decide +kernel
theorem dX6_readValue_58 : decode cX6_readValue 58 = .ok (.iload_n 1, 1) := by decide +kernel
theorem dX6_readValue_59 : decode cX6_readValue 59 = .ok (.bipush 26, 2) := by decide +kernel
theorem dX6_readValue_61 : decode cX6_readValue 61 = .ok (.if_icmp .lt 18, 3) := by decide +kernel
theorem dX6_readValue_64 : decode cX6_readValue 64 = .ok (.aload_n 0, 1) := by decide +kernel
theorem dX6_readValue_65 : decode cX6_readValue 65 = .ok (.getfield 15, 3) := by decide +kernel
theorem dX6_readValue_68 : decode cX6_readValue 68 = .ok (.iload_n 1, 1) := by decide +kernel
theorem dX6_readValue_69 : decode cX6_readValue 69 = .ok (.invokevirtual 72, 3) := by decide +kernel
theorem dX6_readValue_72 : decode cX6_readValue 72 = .ok (.aload_n 0, 1) := by decide +kernel
theorem dX6_readValue_73 : decode cX6_readValue 73 = .ok (.invokevirtual 78, 3) := by decide +kernel
theorem dX6_readValue_76 : decode cX6_readValue 76 = .ok (.goto 11, 3) := by decide +kernel
theorem dX6_readValue_79 : decode cX6_readValue 79 = .ok (.aload_n 0, 1) := by decide +kernel
theorem dX6_readValue_80 : decode cX6_readValue 80 = .ok (.getfield 9, 3) := by decide +kernel
theorem dX6_readValue_83 : decode cX6_readValue 83 = .ok (.iconst 0, 1) := by decide +kernel
theorem dX6_readValue_84 : decode cX6_readValue 84 = .ok (.invokevirtual 63, 3) := by decide +kernel
theorem dX6_readValue_87 : decode cX6_readValue 87 = .ok (.return_, 1) := by decide +kernel
def Rr_readValue (N : Nat) (M : jMem) : Option (Int × jMem) := jchk (M 12 0 = 2) <| (To_looked N M).bind fun r2 => (if r2 = 2 then jchk (M 12 0 = 2) <| jbv (To_fail N 1 M) fun M15 => some (0, M15) else (if r2 = 1 then jchk (jkb jTX (M 12 1) 5 = true) <| jchk (M 12 0 = 2) <| jchk (M 12 0 = 2) <| jchk (0 ≤ (M 2 3) ∧ (M 2 3) < 401) <| jbv (Ru_push N ((M 12 1)) ((M 5 ((M 2 3)))) M) fun M12 => jbv (Rr_takeCounted N M12) fun M13 => some (0, M13) else (if r2 < 26 then jchk (M 12 0 = 2) <| jbv (To_fail N 0 M) fun M4 => some (0, M4) else jchk (jkb jTX (M 12 1) 5 = true) <| jbv (Ru_apply N ((M 12 1)) r2 M) fun M6 => jbv (Rr_takeCounted N M6) fun M7 => some (0, M7))))
theorem c_Rr_readValue {l : Launch} {g : jG} (N : Nat) (M : jMem)  : ∀ o, Rr_readValue N  M = some o → jCt l g jTX yX6_readValue cX6_readValue 2 none 3 5 [(2, 12)] M o := by
  refine jMet (own := RX6) (em := id) (L := [(0, 2, 12)]) (by decide +kernel) rfl (Nat.le_of_ble_eq_true rfl) rfl (fun K hR => ?_)
  unfold Rr_readValue
  refine z_aload_n (pc := 0) hR 0 dX6_readValue_0 rfl rfl ?_
  refine z_getm (pc := 1) hR (j := 0) jf_RX6_9 kxo_12 (by decide) rfl rfl dX6_readValue_1 ?_
  refine z_chk (fun hc1 => ?_)
  refine z_cast hc1 ?_
  refine z_callvp (pc := 4) hR (As := []) (st := []) jm_X8_looked jl_RX6_59 kxo_2 (by decide) rfl (by decide) (c_To_looked N M) rfl (by decide) (by decide) rfl (Nat.le_of_ble_eq_true rfl) dX6_readValue_4 (fun r2 => ?_)
  refine z_istore_n (pc := 7) hR (lv' := [(1, 0, r2), (0, 2, 12)]) dX6_readValue_7 rfl (by decide) rfl ?_
  refine z_iload_n (pc := 8) hR 0 dX6_readValue_8 rfl rfl ?_
  refine z_iconst (pc := 9) hR dX6_readValue_9 rfl ?_
  refine z_icmpne (pc := 10) (tgt := 24) hR dX6_readValue_10 (by decide) ?_ ?_
  · refine z_iload_n (pc := 24) hR 0 dX6_readValue_24 rfl rfl ?_
    refine z_iconst (pc := 25) hR dX6_readValue_25 rfl ?_
    refine z_icmpne (pc := 26) (tgt := 58) hR dX6_readValue_26 (by decide) ?_ ?_
    · refine z_iload_n (pc := 58) hR 0 dX6_readValue_58 rfl rfl ?_
      refine z_bipush (pc := 59) hR dX6_readValue_59 rfl ?_
      refine z_icmplt (pc := 61) (tgt := 79) hR dX6_readValue_61 (by decide) ?_ ?_
      · refine z_aload_n (pc := 79) hR 1 dX6_readValue_79 rfl rfl ?_
        refine z_getm (pc := 80) hR (j := 0) jf_RX6_9 kxo_12 (by decide) rfl rfl dX6_readValue_80 ?_
        refine z_chk (fun hc3 => ?_)
        refine z_cast hc3 ?_
        refine z_iconst (pc := 83) hR dX6_readValue_83 rfl ?_
        refine z_callv0 (pc := 84) (rk' := 3) hR (As := [(0, 0)]) (st := []) jm_X8_fail jl_RX6_63 kxo_2 (by decide) rfl (c_To_fail N 0 M) rfl (by decide) (by decide) rfl (Nat.le_of_ble_eq_true rfl) dX6_readValue_84 (fun M4 => ?_)
        exact z_return (x := 0) (pc := 87) hR rfl rfl dX6_readValue_87 rfl
      · refine z_aload_n (pc := 64) hR 1 dX6_readValue_64 rfl rfl ?_
        refine z_getm (pc := 65) hR (j := 1) jf_RX6_15 kxo_12 (by decide) rfl rfl dX6_readValue_65 ?_
        refine z_chk (fun hc5 => ?_)
        refine z_iload_n (pc := 68) hR 0 dX6_readValue_68 rfl rfl ?_
        refine z_callv0 (pc := 69) (rk' := 3) hR (As := [(0, r2)]) (st := []) jm_X5_apply jl_RX6_72 (jkb_ok hc5) (by decide) rfl (c_Ru_apply N ((M 12 1)) r2 M (jkb_ok hc5)) rfl (by decide) (by decide) rfl (Nat.le_of_ble_eq_true rfl) dX6_readValue_69 (fun M6 => ?_)
        refine z_aload_n (pc := 72) hR 1 dX6_readValue_72 rfl rfl ?_
        refine z_callv0 (pc := 73) (rk' := 3) hR (As := []) (st := []) jm_X6_takeCounted jl_RX6_78 kxo_12 (by decide) rfl (c_Rr_takeCounted N M6) rfl (by decide) (by decide) rfl (Nat.le_of_ble_eq_true rfl) dX6_readValue_73 (fun M7 => ?_)
        refine z_goto (pc := 76) (tgt := 87) hR dX6_readValue_76 (by decide) ?_
        exact z_return (x := 0) (pc := 87) hR rfl rfl dX6_readValue_87 rfl
    · refine z_aload_n (pc := 29) hR 1 dX6_readValue_29 rfl rfl ?_
      refine z_getm (pc := 30) hR (j := 1) jf_RX6_15 kxo_12 (by decide) rfl rfl dX6_readValue_30 ?_
      refine z_chk (fun hc8 => ?_)
      refine z_aload_n (pc := 33) hR 1 dX6_readValue_33 rfl rfl ?_
      refine z_getm (pc := 34) hR (j := 0) jf_RX6_9 kxo_12 (by decide) rfl rfl dX6_readValue_34 ?_
      refine z_chk (fun hc9 => ?_)
      refine z_cast hc9 ?_
      refine z_getr (pc := 37) hR (c0 := 3) (r := 5) jf_RX6_84 kxo_2 (by decide) rfl rfl dX6_readValue_37 ?_
      refine z_aload_n (pc := 40) hR 1 dX6_readValue_40 rfl rfl ?_
      refine z_getm (pc := 41) hR (j := 0) jf_RX6_9 kxo_12 (by decide) rfl rfl dX6_readValue_41 ?_
      refine z_chk (fun hc10 => ?_)
      refine z_cast hc10 ?_
      refine z_geti (pc := 44) hR (j := 3) jf_RX6_88 kxo_2 (by decide) rfl rfl dX6_readValue_44 ?_
      refine z_chk (fun hc11 => ?_)
      refine z_iald (pc := 47) hR (n := 401) kxa_5 hc11.1 hc11.2 dX6_readValue_47 ?_
      refine z_callv0 (pc := 48) (rk' := 3) hR (As := [(0, (M 5 ((M 2 3))))]) (st := []) jm_X5_push jl_RX6_91 (jkb_ok hc8) (by decide) rfl (c_Ru_push N ((M 12 1)) ((M 5 ((M 2 3)))) M (jkb_ok hc8)) rfl (by decide) (by decide) rfl (Nat.le_of_ble_eq_true rfl) dX6_readValue_48 (fun M12 => ?_)
      refine z_aload_n (pc := 51) hR 1 dX6_readValue_51 rfl rfl ?_
      refine z_callv0 (pc := 52) (rk' := 3) hR (As := []) (st := []) jm_X6_takeCounted jl_RX6_78 kxo_12 (by decide) rfl (c_Rr_takeCounted N M12) rfl (by decide) (by decide) rfl (Nat.le_of_ble_eq_true rfl) dX6_readValue_52 (fun M13 => ?_)
      refine z_goto (pc := 55) (tgt := 87) hR dX6_readValue_55 (by decide) ?_
      exact z_return (x := 0) (pc := 87) hR rfl rfl dX6_readValue_87 rfl
  · refine z_aload_n (pc := 13) hR 1 dX6_readValue_13 rfl rfl ?_
    refine z_getm (pc := 14) hR (j := 0) jf_RX6_9 kxo_12 (by decide) rfl rfl dX6_readValue_14 ?_
    refine z_chk (fun hc14 => ?_)
    refine z_cast hc14 ?_
    refine z_iconst (pc := 17) hR dX6_readValue_17 rfl ?_
    refine z_callv0 (pc := 18) (rk' := 3) hR (As := [(0, 1)]) (st := []) jm_X8_fail jl_RX6_63 kxo_2 (by decide) rfl (c_To_fail N 1 M) rfl (by decide) (by decide) rfl (Nat.le_of_ble_eq_true rfl) dX6_readValue_18 (fun M15 => ?_)
    refine z_goto (pc := 21) (tgt := 87) hR dX6_readValue_21 (by decide) ?_
    exact z_return (x := 0) (pc := 87) hR rfl rfl dX6_readValue_87 rfl
theorem dX6_readSum_0 : decode cX6_readSum 0 = .ok (.aload_n 0, 1) := by decide +kernel
theorem dX6_readSum_1 : decode cX6_readSum 1 = .ok (.invokevirtual 81, 3) := by decide +kernel
theorem dX6_readSum_4 : decode cX6_readSum 4 = .ok (.iconst 0, 1) := by decide +kernel
theorem dX6_readSum_5 : decode cX6_readSum 5 = .ok (.istore_n 1, 1) := by decide +kernel
theorem dX6_readSum_6 : decode cX6_readSum 6 = .ok (.aload_n 0, 1) := by decide +kernel
theorem dX6_readSum_7 : decode cX6_readSum 7 = .ok (.getfield 9, 3) := by decide +kernel
theorem dX6_readSum_10 : decode cX6_readSum 10 = .ok (.invokevirtual 59, 3) := by decide +kernel
theorem dX6_readSum_13 : decode cX6_readSum 13 = .ok (.istore_n 2, 1) := by decide +kernel
theorem dX6_readSum_14 : decode cX6_readSum 14 = .ok (.iconst 0, 1) := by decide +kernel
theorem dX6_readSum_15 : decode cX6_readSum 15 = .ok (.istore_n 3, 1) := by decide +kernel
theorem dX6_readSum_16 : decode cX6_readSum 16 = .ok (.iload_n 3, 1) := by decide +kernel
theorem dX6_readSum_17 : decode cX6_readSum 17 = .ok (.sipush 400, 3) := by decide +kernel
theorem dX6_readSum_20 : decode cX6_readSum 20 = .ok (.if_icmp .ge 94, 3) := by decide +kernel
theorem dX6_readSum_23 : decode cX6_readSum 23 = .ok (.iload_n 2, 1) := by decide +kernel
theorem dX6_readSum_24 : decode cX6_readSum 24 = .ok (.bipush 7, 2) := by decide +kernel
theorem dX6_readSum_26 : decode cX6_readSum 26 = .ok (.if_icmp .lt 88, 3) := by decide +kernel
theorem dX6_readSum_29 : decode cX6_readSum 29 = .ok (.iload_n 2, 1) := by decide +kernel
theorem dX6_readSum_30 : decode cX6_readSum 30 = .ok (.bipush 11, 2) := by decide +kernel
theorem dX6_readSum_32 : decode cX6_readSum 32 = .ok (.if_icmp .gt 82, 3) := by decide +kernel
theorem dX6_readSum_35 : decode cX6_readSum 35 = .ok (.iload_n 2, 1) := by decide +kernel
theorem dX6_readSum_36 : decode cX6_readSum 36 = .ok (.bipush 7, 2) := by decide +kernel
theorem dX6_readSum_38 : decode cX6_readSum 38 = .ok (.if_icmp .eq 9, 3) := by decide +kernel
theorem dX6_readSum_41 : decode cX6_readSum 41 = .ok (.iload_n 2, 1) := by decide +kernel
theorem dX6_readSum_42 : decode cX6_readSum 42 = .ok (.bipush 8, 2) := by decide +kernel
theorem dX6_readSum_44 : decode cX6_readSum 44 = .ok (.if_icmp .ne 7, 3) := by decide +kernel
theorem dX6_readSum_47 : decode cX6_readSum 47 = .ok (.iconst 1, 1) := by decide +kernel
theorem dX6_readSum_48 : decode cX6_readSum 48 = .ok (.goto 4, 3) := by decide +kernel
theorem dX6_readSum_51 : decode cX6_readSum 51 = .ok (.iconst 0, 1) := by decide +kernel
theorem dX6_readSum_52 : decode cX6_readSum 52 = .ok (.istore 4, 2) := by decide +kernel
theorem dX6_readSum_54 : decode cX6_readSum 54 = .ok (.iload 4, 2) := by decide +kernel
theorem dX6_readSum_56 : decode cX6_readSum 56 = .ok (.ifCond .eq 15, 3) := by decide +kernel
theorem dX6_readSum_59 : decode cX6_readSum 59 = .ok (.iload_n 1, 1) := by decide +kernel
theorem dX6_readSum_60 : decode cX6_readSum 60 = .ok (.ifCond .eq 11, 3) := by decide +kernel
theorem dX6_readSum_63 : decode cX6_readSum 63 = .ok (.aload_n 0, 1) := by decide +kernel
theorem dX6_readSum_64 : decode cX6_readSum 64 = .ok (.getfield 15, 3) := by decide +kernel
theorem dX6_readSum_67 : decode cX6_readSum 67 = .ok (.iload_n 1, 1) := by decide +kernel
theorem dX6_readSum_68 : decode cX6_readSum 68 = .ok (.invokevirtual 72, 3) := by decide +kernel
theorem dX6_readSum_71 : decode cX6_readSum 71 = .ok (.aload_n 0, 1) := by decide +kernel
theorem dX6_readSum_72 : decode cX6_readSum 72 = .ok (.getfield 9, 3) := by decide +kernel
theorem dX6_readSum_75 : decode cX6_readSum 75 = .ok (.invokevirtual 66, 3) := by decide +kernel
theorem dX6_readSum_78 : decode cX6_readSum 78 = .ok (.aload_n 0, 1) := by decide +kernel
theorem dX6_readSum_79 : decode cX6_readSum 79 = .ok (.invokevirtual 81, 3) := by decide +kernel
theorem dX6_readSum_82 : decode cX6_readSum 82 = .ok (.iload 4, 2) := by decide +kernel
theorem dX6_readSum_84 : decode cX6_readSum 84 = .ok (.ifCond .eq 8, 3) := by decide +kernel
theorem dX6_readSum_87 : decode cX6_readSum 87 = .ok (.iload_n 2, 1) := by decide +kernel
theorem dX6_readSum_88 : decode cX6_readSum 88 = .ok (.istore_n 1, 1) := by decide +kernel
theorem dX6_readSum_89 : decode cX6_readSum 89 = .ok (.goto 11, 3) := by decide +kernel
theorem dX6_readSum_92 : decode cX6_readSum 92 = .ok (.aload_n 0, 1) := by decide +kernel
theorem dX6_readSum_93 : decode cX6_readSum 93 = .ok (.getfield 15, 3) := by decide +kernel
theorem dX6_readSum_96 : decode cX6_readSum 96 = .ok (.iload_n 2, 1) := by decide +kernel
theorem dX6_readSum_97 : decode cX6_readSum 97 = .ok (.invokevirtual 72, 3) := by decide +kernel
theorem dX6_readSum_100 : decode cX6_readSum 100 = .ok (.aload_n 0, 1) := by decide +kernel
theorem dX6_readSum_101 : decode cX6_readSum 101 = .ok (.getfield 9, 3) := by decide +kernel
theorem dX6_readSum_104 : decode cX6_readSum 104 = .ok (.invokevirtual 59, 3) := by decide +kernel
theorem dX6_readSum_107 : decode cX6_readSum 107 = .ok (.istore_n 2, 1) := by decide +kernel
theorem dX6_readSum_108 : decode cX6_readSum 108 = .ok (.iinc 3 1, 3) := by decide +kernel
theorem dX6_readSum_111 : decode cX6_readSum 111 = .ok (.goto (-95), 3) := by decide +kernel
theorem dX6_readSum_114 : decode cX6_readSum 114 = .ok (.iload_n 1, 1) := by decide +kernel
theorem dX6_readSum_115 : decode cX6_readSum 115 = .ok (.ifCond .eq 11, 3) := by decide +kernel
theorem dX6_readSum_118 : decode cX6_readSum 118 = .ok (.aload_n 0, 1) := by decide +kernel
theorem dX6_readSum_119 : decode cX6_readSum 119 = .ok (.getfield 15, 3) := by decide +kernel
theorem dX6_readSum_122 : decode cX6_readSum 122 = .ok (.iload_n 1, 1) := by decide +kernel
theorem dX6_readSum_123 : decode cX6_readSum 123 = .ok (.invokevirtual 72, 3) := by decide +kernel
theorem dX6_readSum_126 : decode cX6_readSum 126 = .ok (.return_, 1) := by decide +kernel
def Rr_readSum_L16 (N : Nat)  (h16 : (Int × Int × Int × jMem) → Option (Int × jMem)) : Int × Int × Int × jMem → Option (Int × jMem)
  | (x4, x5, x6, M7) => jlt (fun (_ : Unit) => (if x4 = 0 then some (0, M7) else jchk (jkb jTX (M7 12 1) 5 = true) <| jbv (Ru_apply N ((M7 12 1)) x4 M7) fun M9 => some (0, M9))) fun j114 => (if x6 < 400 then (if x5 < 7 then j114 () else (if 11 < x5 then j114 () else jlt (fun (u10 : Int) => jlt (fun (M11 : jMem) => jchk (M11 12 0 = 2) <| jbv (To_move N M11) fun M13 => jbv (Rr_readValue N M13) fun M14 => jlt (fun (u15 : Int) (M16 : jMem) => jchk (M16 12 0 = 2) <| (To_looked N M16).bind fun r18 => h16 (u15, r18, (w32 (x6 + 1)), M16)) fun j100 => (if u10 = 0 then jchk (jkb jTX (M14 12 1) 5 = true) <| jbv (Ru_apply N ((M14 12 1)) x5 M14) fun M20 => j100 x4 M20 else j100 x5 M14)) fun j71 => (if u10 = 0 then j71 M7 else (if x4 = 0 then j71 M7 else jchk (jkb jTX (M7 12 1) 5 = true) <| jbv (Ru_apply N ((M7 12 1)) x4 M7) fun M22 => j71 M22))) fun j52 => (if x5 = 7 then j52 1 else (if x5 = 8 then j52 1 else j52 0)))) else j114 ())
def Rr_readSum (N : Nat) (M : jMem) : Option (Int × jMem) := jbv (Rr_readValue N M) fun M1 => jchk (M1 12 0 = 2) <| (To_looked N M1).bind fun r3 => jfix N (Rr_readSum_L16 N) (0, r3, 0, M1)
theorem c_Rr_readSum {l : Launch} {g : jG} (N : Nat) (M : jMem)  : ∀ o, Rr_readSum N  M = some o → jCt l g jTX yX6_readSum cX6_readSum 5 none 3 7 [(2, 12)] M o := by
  refine jMet (own := RX6) (em := id) (L := [(0, 2, 12)]) (by decide +kernel) rfl (Nat.le_of_ble_eq_true rfl) rfl (fun K hR => ?_)
  unfold Rr_readSum
  refine z_aload_n (pc := 0) hR 0 dX6_readSum_0 rfl rfl ?_
  refine z_callv0 (pc := 1) (rk' := 3) hR (As := []) (st := []) jm_X6_readValue jl_RX6_81 kxo_12 (by decide) rfl (c_Rr_readValue N M) rfl (by decide) (by decide) rfl (Nat.le_of_ble_eq_true rfl) dX6_readSum_1 (fun M1 => ?_)
  refine z_iconst (pc := 4) hR dX6_readSum_4 rfl ?_
  refine z_istore_n (pc := 5) hR (lv' := [(1, 0, 0), (0, 2, 12)]) dX6_readSum_5 rfl (by decide) rfl ?_
  refine z_aload_n (pc := 6) hR 1 dX6_readSum_6 rfl rfl ?_
  refine z_getm (pc := 7) hR (j := 0) jf_RX6_9 kxo_12 (by decide) rfl rfl dX6_readSum_7 ?_
  refine z_chk (fun hc2 => ?_)
  refine z_cast hc2 ?_
  refine z_callvp (pc := 10) hR (As := []) (st := []) jm_X8_looked jl_RX6_59 kxo_2 (by decide) rfl (by decide) (c_To_looked N M1) rfl (by decide) (by decide) rfl (Nat.le_of_ble_eq_true rfl) dX6_readSum_10 (fun r3 => ?_)
  refine z_istore_n (pc := 13) hR (lv' := [(2, 0, r3), (1, 0, 0), (0, 2, 12)]) dX6_readSum_13 rfl (by decide) rfl ?_
  refine z_iconst (pc := 14) hR dX6_readSum_14 rfl ?_
  refine z_istore_n (pc := 15) hR (lv' := [(3, 0, 0), (2, 0, r3), (1, 0, 0), (0, 2, 12)]) dX6_readSum_15 rfl (by decide) rfl ?_
  refine z_pick (pc := 16) (lv' := [(0, 2, 12), (1, 0, 0), (2, 0, r3), (3, 0, 0)]) hR [3, 2, 1, 0] rfl ?_
  refine z_fix (σ := Int × Int × Int × jMem) (lv := fun s => [(0, 2, 12), (1, 0, s.1), (2, 0, s.2.1), (3, 0, s.2.2.1)]) (st := fun _ => []) (M := fun s => s.2.2.2) (fun h16 hh16 => ?_) N (0, r3, 0, M1)
  rintro ⟨x4, x5, x6, M7⟩
  show jZ K id 16 [(0, 2, 12), (1, 0, x4), (2, 0, x5), (3, 0, x6)] [] M7 _
  unfold Rr_readSum_L16
  refine z_iload_n (pc := 16) hR 3 dX6_readSum_16 rfl rfl ?_
  refine z_sipush (pc := 17) hR dX6_readSum_17 rfl ?_
  refine z_join (P := fun j => ∀ (_ : Unit), jZ K id 114 [(0, 2, 12), (1, 0, x4)] [] M7 (j ())) (fun _ => ?_) (fun j114 hj114 => ?_)
  · refine z_iload_n (pc := 114) hR 1 dX6_readSum_114 rfl rfl ?_
    refine z_ifeq (pc := 115) (tgt := 126) hR dX6_readSum_115 (by decide) ?_ ?_
    · exact z_return (x := 0) (pc := 126) hR rfl rfl dX6_readSum_126 rfl
    · refine z_aload_n (pc := 118) hR 0 dX6_readSum_118 rfl rfl ?_
      refine z_getm (pc := 119) hR (j := 1) jf_RX6_15 kxo_12 (by decide) rfl rfl dX6_readSum_119 ?_
      refine z_chk (fun hc8 => ?_)
      refine z_iload_n (pc := 122) hR 1 dX6_readSum_122 rfl rfl ?_
      refine z_callv0 (pc := 123) (rk' := 3) hR (As := [(0, x4)]) (st := []) jm_X5_apply jl_RX6_72 (jkb_ok hc8) (by decide) rfl (c_Ru_apply N ((M7 12 1)) x4 M7 (jkb_ok hc8)) rfl (by decide) (by decide) rfl (Nat.le_of_ble_eq_true rfl) dX6_readSum_123 (fun M9 => ?_)
      exact z_return (x := 0) (pc := 126) hR rfl rfl dX6_readSum_126 rfl
  refine z_icmpge (pc := 20) (tgt := 114) hR dX6_readSum_20 (by decide) ?_ ?_
  · refine z_pick (pc := 114) (lv' := [(0, 2, 12), (1, 0, x4)]) hR [0, 1] rfl ?_
    exact hj114 ()
  · refine z_iload_n (pc := 23) hR 2 dX6_readSum_23 rfl rfl ?_
    refine z_bipush (pc := 24) hR dX6_readSum_24 rfl ?_
    refine z_icmplt (pc := 26) (tgt := 114) hR dX6_readSum_26 (by decide) ?_ ?_
    · refine z_pick (pc := 114) (lv' := [(0, 2, 12), (1, 0, x4)]) hR [0, 1] rfl ?_
      exact hj114 ()
    · refine z_iload_n (pc := 29) hR 2 dX6_readSum_29 rfl rfl ?_
      refine z_bipush (pc := 30) hR dX6_readSum_30 rfl ?_
      refine z_icmpgt (pc := 32) (tgt := 114) hR dX6_readSum_32 (by decide) ?_ ?_
      · refine z_pick (pc := 114) (lv' := [(0, 2, 12), (1, 0, x4)]) hR [0, 1] rfl ?_
        exact hj114 ()
      · refine z_iload_n (pc := 35) hR 2 dX6_readSum_35 rfl rfl ?_
        refine z_bipush (pc := 36) hR dX6_readSum_36 rfl ?_
        refine z_join (P := fun j => ∀ (u10 : Int), jZ K id 52 [(0, 2, 12), (1, 0, x4), (2, 0, x5), (3, 0, x6)] [(0, u10)] M7 (j u10)) (fun u10 => ?_) (fun j52 hj52 => ?_)
        · refine z_istore (pc := 52) hR (lv' := [(4, 0, u10), (0, 2, 12), (1, 0, x4), (2, 0, x5), (3, 0, x6)]) dX6_readSum_52 (by decide) rfl ?_
          refine z_iload (pc := 54) hR 0 dX6_readSum_54 rfl ?_
          refine z_join (P := fun j => ∀ (M11 : jMem), jZ K id 71 [(0, 2, 12), (1, 0, x4), (2, 0, x5), (3, 0, x6), (4, 0, u10)] [] M11 (j M11)) (fun M11 => ?_) (fun j71 hj71 => ?_)
          · refine z_aload_n (pc := 71) hR 0 dX6_readSum_71 rfl rfl ?_
            refine z_getm (pc := 72) hR (j := 0) jf_RX6_9 kxo_12 (by decide) rfl rfl dX6_readSum_72 ?_
            refine z_chk (fun hc12 => ?_)
            refine z_cast hc12 ?_
            refine z_callv0 (pc := 75) (rk' := 3) hR (As := []) (st := []) jm_X8_move jl_RX6_66 kxo_2 (by decide) rfl (c_To_move N M11) rfl (by decide) (by decide) rfl (Nat.le_of_ble_eq_true rfl) dX6_readSum_75 (fun M13 => ?_)
            refine z_aload_n (pc := 78) hR 0 dX6_readSum_78 rfl rfl ?_
            refine z_callv0 (pc := 79) (rk' := 3) hR (As := []) (st := []) jm_X6_readValue jl_RX6_81 kxo_12 (by decide) rfl (c_Rr_readValue N M13) rfl (by decide) (by decide) rfl (Nat.le_of_ble_eq_true rfl) dX6_readSum_79 (fun M14 => ?_)
            refine z_iload (pc := 82) hR 4 dX6_readSum_82 rfl ?_
            refine z_join (P := fun j => ∀ (u15 : Int) (M16 : jMem), jZ K id 100 [(0, 2, 12), (1, 0, u15), (3, 0, x6)] [] M16 (j u15 M16)) (fun u15 M16 => ?_) (fun j100 hj100 => ?_)
            · refine z_aload_n (pc := 100) hR 0 dX6_readSum_100 rfl rfl ?_
              refine z_getm (pc := 101) hR (j := 0) jf_RX6_9 kxo_12 (by decide) rfl rfl dX6_readSum_101 ?_
              refine z_chk (fun hc17 => ?_)
              refine z_cast hc17 ?_
              refine z_callvp (pc := 104) hR (As := []) (st := []) jm_X8_looked jl_RX6_59 kxo_2 (by decide) rfl (by decide) (c_To_looked N M16) rfl (by decide) (by decide) rfl (Nat.le_of_ble_eq_true rfl) dX6_readSum_104 (fun r18 => ?_)
              refine z_istore_n (pc := 107) hR (lv' := [(2, 0, r18), (0, 2, 12), (1, 0, u15), (3, 0, x6)]) dX6_readSum_107 rfl (by decide) rfl ?_
              refine z_iinc (pc := 108) hR (j := 3) (lv' := [(3, 0, (w32 (x6 + 1))), (2, 0, r18), (0, 2, 12), (1, 0, u15)]) dX6_readSum_108 rfl (by decide) rfl ?_
              refine z_goto (pc := 111) (tgt := 16) hR dX6_readSum_111 (by decide) ?_
              refine z_pick (pc := 16) (lv' := [(0, 2, 12), (1, 0, u15), (2, 0, r18), (3, 0, (w32 (x6 + 1)))]) hR [2, 3, 1, 0] rfl ?_
              exact hh16 (u15, r18, (w32 (x6 + 1)), M16)
            refine z_ifeq (pc := 84) (tgt := 92) hR dX6_readSum_84 (by decide) ?_ ?_
            · refine z_aload_n (pc := 92) hR 0 dX6_readSum_92 rfl rfl ?_
              refine z_getm (pc := 93) hR (j := 1) jf_RX6_15 kxo_12 (by decide) rfl rfl dX6_readSum_93 ?_
              refine z_chk (fun hc19 => ?_)
              refine z_iload_n (pc := 96) hR 2 dX6_readSum_96 rfl rfl ?_
              refine z_callv0 (pc := 97) (rk' := 3) hR (As := [(0, x5)]) (st := []) jm_X5_apply jl_RX6_72 (jkb_ok hc19) (by decide) rfl (c_Ru_apply N ((M14 12 1)) x5 M14 (jkb_ok hc19)) rfl (by decide) (by decide) rfl (Nat.le_of_ble_eq_true rfl) dX6_readSum_97 (fun M20 => ?_)
              refine z_pick (pc := 100) (lv' := [(0, 2, 12), (1, 0, x4), (3, 0, x6)]) hR [0, 1, 3] rfl ?_
              exact hj100 x4 M20
            · refine z_iload_n (pc := 87) hR 2 dX6_readSum_87 rfl rfl ?_
              refine z_istore_n (pc := 88) hR (lv' := [(1, 0, x5), (0, 2, 12), (2, 0, x5), (3, 0, x6), (4, 0, u10)]) dX6_readSum_88 rfl (by decide) rfl ?_
              refine z_goto (pc := 89) (tgt := 100) hR dX6_readSum_89 (by decide) ?_
              refine z_pick (pc := 100) (lv' := [(0, 2, 12), (1, 0, x5), (3, 0, x6)]) hR [1, 0, 3] rfl ?_
              exact hj100 x5 M14
          refine z_ifeq (pc := 56) (tgt := 71) hR dX6_readSum_56 (by decide) ?_ ?_
          · refine z_pick (pc := 71) (lv' := [(0, 2, 12), (1, 0, x4), (2, 0, x5), (3, 0, x6), (4, 0, u10)]) hR [1, 2, 3, 4, 0] rfl ?_
            exact hj71 M7
          · refine z_iload_n (pc := 59) hR 2 dX6_readSum_59 rfl rfl ?_
            refine z_ifeq (pc := 60) (tgt := 71) hR dX6_readSum_60 (by decide) ?_ ?_
            · refine z_pick (pc := 71) (lv' := [(0, 2, 12), (1, 0, x4), (2, 0, x5), (3, 0, x6), (4, 0, u10)]) hR [1, 2, 3, 4, 0] rfl ?_
              exact hj71 M7
            · refine z_aload_n (pc := 63) hR 1 dX6_readSum_63 rfl rfl ?_
              refine z_getm (pc := 64) hR (j := 1) jf_RX6_15 kxo_12 (by decide) rfl rfl dX6_readSum_64 ?_
              refine z_chk (fun hc21 => ?_)
              refine z_iload_n (pc := 67) hR 2 dX6_readSum_67 rfl rfl ?_
              refine z_callv0 (pc := 68) (rk' := 3) hR (As := [(0, x4)]) (st := []) jm_X5_apply jl_RX6_72 (jkb_ok hc21) (by decide) rfl (c_Ru_apply N ((M7 12 1)) x4 M7 (jkb_ok hc21)) rfl (by decide) (by decide) rfl (Nat.le_of_ble_eq_true rfl) dX6_readSum_68 (fun M22 => ?_)
              refine z_pick (pc := 71) (lv' := [(0, 2, 12), (1, 0, x4), (2, 0, x5), (3, 0, x6), (4, 0, u10)]) hR [1, 2, 3, 4, 0] rfl ?_
              exact hj71 M22
        refine z_icmpeq (pc := 38) (tgt := 47) hR dX6_readSum_38 (by decide) ?_ ?_
        · refine z_iconst (pc := 47) hR dX6_readSum_47 rfl ?_
          refine z_goto (pc := 48) (tgt := 52) hR dX6_readSum_48 (by decide) ?_
          exact hj52 1
        · refine z_iload_n (pc := 41) hR 2 dX6_readSum_41 rfl rfl ?_
          refine z_bipush (pc := 42) hR dX6_readSum_42 rfl ?_
          refine z_icmpne (pc := 44) (tgt := 51) hR dX6_readSum_44 (by decide) ?_ ?_
          · refine z_iconst (pc := 51) hR dX6_readSum_51 rfl ?_
            exact hj52 0
          · refine z_iconst (pc := 47) hR dX6_readSum_47 rfl ?_
            refine z_goto (pc := 48) (tgt := 52) hR dX6_readSum_48 (by decide) ?_
            exact hj52 1
theorem dX5_openTest_0 : decode cX5_openTest 0 = .ok (.aload_n 0, 1) := by decide +kernel
theorem dX5_openTest_1 : decode cX5_openTest 1 = .ok (.getfield 32, 3) := by decide +kernel
theorem dX5_openTest_4 : decode cX5_openTest 4 = .ok (.bipush 12, 2) := by decide +kernel
theorem dX5_openTest_6 : decode cX5_openTest 6 = .ok (.if_icmp .ge 16, 3) := by decide +kernel
theorem dX5_openTest_9 : decode cX5_openTest 9 = .ok (.aload_n 0, 1) := by decide +kernel
theorem dX5_openTest_10 : decode cX5_openTest 10 = .ok (.getfield 18, 3) := by decide +kernel
theorem dX5_openTest_13 : decode cX5_openTest 13 = .ok (.aload_n 0, 1) := by decide +kernel
theorem dX5_openTest_14 : decode cX5_openTest 14 = .ok (.getfield 32, 3) := by decide +kernel
theorem dX5_openTest_17 : decode cX5_openTest 17 = .ok (.aload_n 0, 1) := by decide +kernel
theorem dX5_openTest_18 : decode cX5_openTest 18 = .ok (.getfield 28, 3) := by decide +kernel
theorem dX5_openTest_21 : decode cX5_openTest 21 = .ok (.iastore, 1) := by decide +kernel
theorem dX5_openTest_22 : decode cX5_openTest 22 = .ok (.return_, 1) := by decide +kernel
def Ru_openTest (N : Nat) (q : Int) (M : jMem) : Option (Int × jMem) := (if (M q 5) < 12 then jchk (0 ≤ (M q 5) ∧ (M q 5) < 12) <| jlt (up M ((q + 3)) ((M q 5)) ((M q 1))) fun M2 => some (0, M2) else some (0, M))
theorem c_Ru_openTest {l : Launch} {g : jG} (N : Nat) (q : Int) (M : jMem) (hq : jk jTX q 5) : ∀ o, Ru_openTest N q M = some o → jCt l g jTX yX5_openTest cX5_openTest 1 none 3 1 [(2, q)] M o := by
  refine jMet (own := RX5) (em := id) (L := [(0, 2, q)]) (by decide +kernel) rfl (Nat.le_of_ble_eq_true rfl) rfl (fun K hR => ?_)
  unfold Ru_openTest
  refine z_aload_n (pc := 0) hR 0 dX5_openTest_0 rfl rfl ?_
  refine z_geti (pc := 1) hR (j := 5) jf_RX5_32 hq (by decide) rfl rfl dX5_openTest_1 ?_
  refine z_bipush (pc := 4) hR dX5_openTest_4 rfl ?_
  refine z_icmpge (pc := 6) (tgt := 22) hR dX5_openTest_6 (by decide) ?_ ?_
  · exact z_return (x := 0) (pc := 22) hR rfl rfl dX5_openTest_22 rfl
  · refine z_aload_n (pc := 9) hR 0 dX5_openTest_9 rfl rfl ?_
    refine z_getr (pc := 10) hR (c0 := 3) (r := (q + 3)) jf_RX5_18 hq (by decide) rfl rfl dX5_openTest_10 ?_
    refine z_aload_n (pc := 13) hR 0 dX5_openTest_13 rfl rfl ?_
    refine z_geti (pc := 14) hR (j := 5) jf_RX5_32 hq (by decide) rfl rfl dX5_openTest_14 ?_
    refine z_aload_n (pc := 17) hR 0 dX5_openTest_17 rfl rfl ?_
    refine z_geti (pc := 18) hR (j := 1) jf_RX5_28 hq (by decide) rfl rfl dX5_openTest_18 ?_
    refine z_chk (fun hc1 => ?_)
    refine z_iast (pc := 21) hR (n := 12) (kf_5_testFrom hq) hc1.1 hc1.2 dX5_openTest_21 (fun M2 => ?_)
    exact z_return (x := 0) (pc := 22) hR rfl rfl dX5_openTest_22 rfl
