theorem dX7_farmThatHas_0 : decode cX7_farmThatHas 0 = .ok (.iconst 0, 1) := by decide +kernel
theorem dX7_farmThatHas_1 : decode cX7_farmThatHas 1 = .ok (.istore_n 2, 1) := by decide +kernel
theorem dX7_farmThatHas_2 : decode cX7_farmThatHas 2 = .ok (.iconst 0, 1) := by decide +kernel
theorem dX7_farmThatHas_3 : decode cX7_farmThatHas 3 = .ok (.istore_n 3, 1) := by decide +kernel
theorem dX7_farmThatHas_4 : decode cX7_farmThatHas 4 = .ok (.iload_n 3, 1) := by decide +kernel
theorem dX7_farmThatHas_5 : decode cX7_farmThatHas 5 = .ok (.aload_n 0, 1) := by decide +kernel
theorem dX7_farmThatHas_6 : decode cX7_farmThatHas 6 = .ok (.getfield 27, 3) := by decide +kernel
theorem dX7_farmThatHas_9 : decode cX7_farmThatHas 9 = .ok (.if_icmp .ge 21, 3) := by decide +kernel
theorem dX7_farmThatHas_12 : decode cX7_farmThatHas 12 = .ok (.aload_n 0, 1) := by decide +kernel
theorem dX7_farmThatHas_13 : decode cX7_farmThatHas 13 = .ok (.getfield 21, 3) := by decide +kernel
theorem dX7_farmThatHas_16 : decode cX7_farmThatHas 16 = .ok (.iload_n 3, 1) := by decide +kernel
theorem dX7_farmThatHas_17 : decode cX7_farmThatHas 17 = .ok (.iaload, 1) := by decide +kernel
theorem dX7_farmThatHas_18 : decode cX7_farmThatHas 18 = .ok (.iload_n 1, 1) := by decide +kernel
theorem dX7_farmThatHas_19 : decode cX7_farmThatHas 19 = .ok (.if_icmp .ne 5, 3) := by decide +kernel
theorem dX7_farmThatHas_22 : decode cX7_farmThatHas 22 = .ok (.iload_n 3, 1) := by decide +kernel
theorem dX7_farmThatHas_23 : decode cX7_farmThatHas 23 = .ok (.istore_n 2, 1) := by decide +kernel
theorem dX7_farmThatHas_24 : decode cX7_farmThatHas 24 = .ok (.iinc 3 1, 3) := by decide +kernel
theorem dX7_farmThatHas_27 : decode cX7_farmThatHas 27 = .ok (.goto (-23), 3) := by decide +kernel
theorem dX7_farmThatHas_30 : decode cX7_farmThatHas 30 = .ok (.iload_n 2, 1) := by decide +kernel
theorem dX7_farmThatHas_31 : decode cX7_farmThatHas 31 = .ok (.ireturn, 1) := by decide +kernel
def St_farmThatHas_L4 (N : Nat) (q : Int) (a1 : Int) (M : jMem) (h4 : (Int × Int) → Option Int) : Int × Int → Option Int
  | (x1, x2) => (if x2 < (M q 0) then jchk (0 ≤ x2 ∧ x2 < 7) <| (if (M ((q + 4)) x2) = a1 then h4 (x2, (w32 (x2 + 1))) else h4 (x1, (w32 (x2 + 1)))) else some x1)
def St_farmThatHas (N : Nat) (q a1 : Int) (M : jMem) : Option Int := jfix N (St_farmThatHas_L4 N q a1 M) (0, 0)
theorem c_St_farmThatHas {l : Launch} {g : jG} (N : Nat) (q a1 : Int) (M : jMem) (hq : jk jTX q 7) : ∀ o, St_farmThatHas N q a1 M = some o → jCt l g jTX yX7_farmThatHas cX7_farmThatHas 4 (some .int) 0 1 [(2, q), (0, a1)] M (o, M) := by
  refine jMet (own := RX7) (em := (fun r => (r, M))) (L := [(0, 2, q), (1, 0, a1)]) (by decide +kernel) rfl (Nat.le_of_ble_eq_true rfl) rfl (fun K hR => ?_)
  unfold St_farmThatHas
  refine z_iconst (pc := 0) hR dX7_farmThatHas_0 rfl ?_
  refine z_istore_n (pc := 1) hR (lv' := [(2, 0, 0), (0, 2, q), (1, 0, a1)]) dX7_farmThatHas_1 rfl (by decide) rfl ?_
  refine z_iconst (pc := 2) hR dX7_farmThatHas_2 rfl ?_
  refine z_istore_n (pc := 3) hR (lv' := [(3, 0, 0), (2, 0, 0), (0, 2, q), (1, 0, a1)]) dX7_farmThatHas_3 rfl (by decide) rfl ?_
  refine z_pick (pc := 4) (lv' := [(0, 2, q), (1, 0, a1), (2, 0, 0), (3, 0, 0)]) hR [2, 3, 1, 0] rfl ?_
  refine z_fix (σ := Int × Int) (lv := fun s => [(0, 2, q), (1, 0, a1), (2, 0, s.1), (3, 0, s.2)]) (st := fun _ => []) (M := fun _ => M) (fun h4 hh4 => ?_) N (0, 0)
  rintro ⟨x1, x2⟩
  show jZ K (fun r => (r, M)) 4 [(0, 2, q), (1, 0, a1), (2, 0, x1), (3, 0, x2)] [] M _
  unfold St_farmThatHas_L4
  refine z_iload_n (pc := 4) hR 3 dX7_farmThatHas_4 rfl rfl ?_
  refine z_aload_n (pc := 5) hR 0 dX7_farmThatHas_5 rfl rfl ?_
  refine z_geti (pc := 6) hR (j := 0) jf_RX7_27 hq (by decide) rfl rfl dX7_farmThatHas_6 ?_
  refine z_icmpge (pc := 9) (tgt := 30) hR dX7_farmThatHas_9 (by decide) ?_ ?_
  · refine z_iload_n (pc := 30) hR 2 dX7_farmThatHas_30 rfl rfl ?_
    exact z_ireturn (pc := 31) hR rfl rfl dX7_farmThatHas_31 rfl
  · refine z_aload_n (pc := 12) hR 0 dX7_farmThatHas_12 rfl rfl ?_
    refine z_getr (pc := 13) hR (c0 := 4) (r := (q + 4)) jf_RX7_21 hq (by decide) rfl rfl dX7_farmThatHas_13 ?_
    refine z_iload_n (pc := 16) hR 3 dX7_farmThatHas_16 rfl rfl ?_
    refine z_chk (fun hc3 => ?_)
    refine z_iald (pc := 17) hR (n := 7) (kf_7_has hq) hc3.1 hc3.2 dX7_farmThatHas_17 ?_
    refine z_iload_n (pc := 18) hR 1 dX7_farmThatHas_18 rfl rfl ?_
    refine z_icmpne (pc := 19) (tgt := 24) hR dX7_farmThatHas_19 (by decide) ?_ ?_
    · refine z_iinc (pc := 24) hR (j := 3) (lv' := [(3, 0, (w32 (x2 + 1))), (0, 2, q), (1, 0, a1), (2, 0, x1)]) dX7_farmThatHas_24 rfl (by decide) rfl ?_
      refine z_goto (pc := 27) (tgt := 4) hR dX7_farmThatHas_27 (by decide) ?_
      refine z_pick (pc := 4) (lv' := [(0, 2, q), (1, 0, a1), (2, 0, x1), (3, 0, (w32 (x2 + 1)))]) hR [1, 2, 3, 0] rfl ?_
      exact hh4 (x1, (w32 (x2 + 1)))
    · refine z_iload_n (pc := 22) hR 3 dX7_farmThatHas_22 rfl rfl ?_
      refine z_istore_n (pc := 23) hR (lv' := [(2, 0, x2), (0, 2, q), (1, 0, a1), (3, 0, x2)]) dX7_farmThatHas_23 rfl (by decide) rfl ?_
      refine z_iinc (pc := 24) hR (j := 3) (lv' := [(3, 0, (w32 (x2 + 1))), (2, 0, x2), (0, 2, q), (1, 0, a1)]) dX7_farmThatHas_24 rfl (by decide) rfl ?_
      refine z_goto (pc := 27) (tgt := 4) hR dX7_farmThatHas_27 (by decide) ?_
      refine z_pick (pc := 4) (lv' := [(0, 2, q), (1, 0, a1), (2, 0, x2), (3, 0, (w32 (x2 + 1)))]) hR [2, 3, 1, 0] rfl ?_
      exact hh4 (x2, (w32 (x2 + 1)))
theorem dX4_areKin_0 : decode cX4_areKin 0 = .ok (.aload_n 0, 1) := by decide +kernel
theorem dX4_areKin_1 : decode cX4_areKin 1 = .ok (.getfield 24, 3) := by decide +kernel
theorem dX4_areKin_4 : decode cX4_areKin 4 = .ok (.iload_n 1, 1) := by decide +kernel
theorem dX4_areKin_5 : decode cX4_areKin 5 = .ok (.iaload, 1) := by decide +kernel
theorem dX4_areKin_6 : decode cX4_areKin 6 = .ok (.iload_n 2, 1) := by decide +kernel
theorem dX4_areKin_7 : decode cX4_areKin 7 = .ok (.ishr, 1) := by decide +kernel
theorem dX4_areKin_8 : decode cX4_areKin 8 = .ok (.iconst 1, 1) := by decide +kernel
theorem dX4_areKin_9 : decode cX4_areKin 9 = .ok (.iand, 1) := by decide +kernel
theorem dX4_areKin_10 : decode cX4_areKin 10 = .ok (.ifCond .eq 7, 3) := by decide +kernel
theorem dX4_areKin_13 : decode cX4_areKin 13 = .ok (.iconst 1, 1) := by decide +kernel
theorem dX4_areKin_14 : decode cX4_areKin 14 = .ok (.goto 4, 3) := by decide +kernel
theorem dX4_areKin_17 : decode cX4_areKin 17 = .ok (.iconst 0, 1) := by decide +kernel
theorem dX4_areKin_18 : decode cX4_areKin 18 = .ok (.ireturn, 1) := by decide +kernel
def Pa_areKin (N : Nat) (q a1 a2 : Int) (M : jMem) : Option Int := jchk (0 ≤ a1 ∧ a1 < 7) <| (if (jand ((jshr ((M ((q + 5)) a1)) a2)) 1) = 0 then some 0 else some 1)
theorem c_Pa_areKin {l : Launch} {g : jG} (N : Nat) (q a1 a2 : Int) (M : jMem) (hq : jk jTX q 4) : ∀ o, Pa_areKin N q a1 a2 M = some o → jCt l g jTX yX4_areKin cX4_areKin 3 (some .boolean) 0 1 [(2, q), (0, a1), (0, a2)] M (o, M) := by
  refine jMet (own := RX4) (em := (fun r => (r, M))) (L := [(0, 2, q), (1, 0, a1), (2, 0, a2)]) (by decide +kernel) rfl (Nat.le_of_ble_eq_true rfl) rfl (fun K hR => ?_)
  unfold Pa_areKin
  refine z_aload_n (pc := 0) hR 0 dX4_areKin_0 rfl rfl ?_
  refine z_getr (pc := 1) hR (c0 := 5) (r := (q + 5)) jf_RX4_24 hq (by decide) rfl rfl dX4_areKin_1 ?_
  refine z_iload_n (pc := 4) hR 1 dX4_areKin_4 rfl rfl ?_
  refine z_chk (fun hc1 => ?_)
  refine z_iald (pc := 5) hR (n := 7) (kf_4_kin hq) hc1.1 hc1.2 dX4_areKin_5 ?_
  refine z_iload_n (pc := 6) hR 2 dX4_areKin_6 rfl rfl ?_
  refine z_ishr (pc := 7) hR dX4_areKin_7 ?_
  refine z_iconst (pc := 8) hR dX4_areKin_8 rfl ?_
  refine z_iand (pc := 9) hR dX4_areKin_9 ?_
  refine z_ifeq (pc := 10) (tgt := 17) hR dX4_areKin_10 (by decide) ?_ ?_
  · refine z_iconst (pc := 17) hR dX4_areKin_17 rfl ?_
    exact z_zreturn (pc := 18) hR rfl rfl (Or.inl rfl) dX4_areKin_18 rfl
  · refine z_iconst (pc := 13) hR dX4_areKin_13 rfl ?_
    refine z_goto (pc := 14) (tgt := 18) hR dX4_areKin_14 (by decide) ?_
    exact z_zreturn (pc := 18) hR rfl rfl (Or.inr rfl) dX4_areKin_18 rfl
theorem dX7_canWed_0 : decode cX7_canWed 0 = .ok (.aload_n 1, 1) := by decide +kernel
theorem dX7_canWed_1 : decode cX7_canWed 1 = .ok (.iload_n 2, 1) := by decide +kernel
theorem dX7_canWed_2 : decode cX7_canWed 2 = .ok (.iload_n 3, 1) := by decide +kernel
theorem dX7_canWed_3 : decode cX7_canWed 3 = .ok (.invokevirtual 56, 3) := by decide +kernel
theorem dX7_canWed_6 : decode cX7_canWed 6 = .ok (.ifCond .eq 25, 3) := by decide +kernel
theorem dX7_canWed_9 : decode cX7_canWed 9 = .ok (.aload_n 0, 1) := by decide +kernel
theorem dX7_canWed_10 : decode cX7_canWed 10 = .ok (.getfield 24, 3) := by decide +kernel
theorem dX7_canWed_13 : decode cX7_canWed 13 = .ok (.iload_n 2, 1) := by decide +kernel
theorem dX7_canWed_14 : decode cX7_canWed 14 = .ok (.iaload, 1) := by decide +kernel
theorem dX7_canWed_15 : decode cX7_canWed 15 = .ok (.ifCond .le 16, 3) := by decide +kernel
theorem dX7_canWed_18 : decode cX7_canWed 18 = .ok (.aload_n 0, 1) := by decide +kernel
theorem dX7_canWed_19 : decode cX7_canWed 19 = .ok (.getfield 24, 3) := by decide +kernel
theorem dX7_canWed_22 : decode cX7_canWed 22 = .ok (.iload_n 3, 1) := by decide +kernel
theorem dX7_canWed_23 : decode cX7_canWed 23 = .ok (.iaload, 1) := by decide +kernel
theorem dX7_canWed_24 : decode cX7_canWed 24 = .ok (.ifCond .le 7, 3) := by decide +kernel
theorem dX7_canWed_27 : decode cX7_canWed 27 = .ok (.iconst 1, 1) := by decide +kernel
theorem dX7_canWed_28 : decode cX7_canWed 28 = .ok (.goto 4, 3) := by decide +kernel
theorem dX7_canWed_31 : decode cX7_canWed 31 = .ok (.iconst 0, 1) := by decide +kernel
theorem dX7_canWed_32 : decode cX7_canWed 32 = .ok (.ireturn, 1) := by decide +kernel
def St_canWed (N : Nat) (q a2 a3 : Int) (M : jMem) : Option Int := (Pa_areKin N 15 a2 a3 M).bind fun r1 => (if r1 = 0 then some 0 else jchk (0 ≤ a2 ∧ a2 < 7) <| (if 0 < (M ((q + 5)) a2) then jchk (0 ≤ a3 ∧ a3 < 7) <| (if 0 < (M ((q + 5)) a3) then some 1 else some 0) else some 0))
theorem c_St_canWed {l : Launch} {g : jG} (N : Nat) (q a2 a3 : Int) (M : jMem) (hq : jk jTX q 7) : ∀ o, St_canWed N q a2 a3 M = some o → jCt l g jTX yX7_canWed cX7_canWed 4 (some .boolean) 0 3 [(2, q), (2, 15), (0, a2), (0, a3)] M (o, M) := by
  refine jMet (own := RX7) (em := (fun r => (r, M))) (L := [(0, 2, q), (1, 2, 15), (2, 0, a2), (3, 0, a3)]) (by decide +kernel) rfl (Nat.le_of_ble_eq_true rfl) rfl (fun K hR => ?_)
  unfold St_canWed
  refine z_aload_n (pc := 0) hR 1 dX7_canWed_0 rfl rfl ?_
  refine z_iload_n (pc := 1) hR 2 dX7_canWed_1 rfl rfl ?_
  refine z_iload_n (pc := 2) hR 3 dX7_canWed_2 rfl rfl ?_
  refine z_callvp (pc := 3) hR (As := [(0, a2), (0, a3)]) (st := []) jm_X4_areKin jl_RX7_56 kxo_15 (by decide) rfl (by decide) (c_Pa_areKin N 15 a2 a3 M kxo_15) rfl (by decide) (by decide) rfl (Nat.le_of_ble_eq_true rfl) dX7_canWed_3 (fun r1 => ?_)
  refine z_ifeq (pc := 6) (tgt := 31) hR dX7_canWed_6 (by decide) ?_ ?_
  · refine z_iconst (pc := 31) hR dX7_canWed_31 rfl ?_
    exact z_zreturn (pc := 32) hR rfl rfl (Or.inl rfl) dX7_canWed_32 rfl
  · refine z_aload_n (pc := 9) hR 0 dX7_canWed_9 rfl rfl ?_
    refine z_getr (pc := 10) hR (c0 := 5) (r := (q + 5)) jf_RX7_24 hq (by decide) rfl rfl dX7_canWed_10 ?_
    refine z_iload_n (pc := 13) hR 2 dX7_canWed_13 rfl rfl ?_
    refine z_chk (fun hc2 => ?_)
    refine z_iald (pc := 14) hR (n := 7) (kf_7_heirs hq) hc2.1 hc2.2 dX7_canWed_14 ?_
    refine z_ifle (pc := 15) (tgt := 31) hR dX7_canWed_15 (by decide) ?_ ?_
    · refine z_iconst (pc := 31) hR dX7_canWed_31 rfl ?_
      exact z_zreturn (pc := 32) hR rfl rfl (Or.inl rfl) dX7_canWed_32 rfl
    · refine z_aload_n (pc := 18) hR 0 dX7_canWed_18 rfl rfl ?_
      refine z_getr (pc := 19) hR (c0 := 5) (r := (q + 5)) jf_RX7_24 hq (by decide) rfl rfl dX7_canWed_19 ?_
      refine z_iload_n (pc := 22) hR 3 dX7_canWed_22 rfl rfl ?_
      refine z_chk (fun hc3 => ?_)
      refine z_iald (pc := 23) hR (n := 7) (kf_7_heirs hq) hc3.1 hc3.2 dX7_canWed_23 ?_
      refine z_ifle (pc := 24) (tgt := 31) hR dX7_canWed_24 (by decide) ?_ ?_
      · refine z_iconst (pc := 31) hR dX7_canWed_31 rfl ?_
        exact z_zreturn (pc := 32) hR rfl rfl (Or.inl rfl) dX7_canWed_32 rfl
      · refine z_iconst (pc := 27) hR dX7_canWed_27 rfl ?_
        refine z_goto (pc := 28) (tgt := 32) hR dX7_canWed_28 (by decide) ?_
        exact z_zreturn (pc := 32) hR rfl rfl (Or.inr rfl) dX7_canWed_32 rfl
theorem dX7_twosThatCanWed_0 : decode cX7_twosThatCanWed 0 = .ok (.iconst 0, 1) := by decide +kernel
theorem dX7_twosThatCanWed_1 : decode cX7_twosThatCanWed 1 = .ok (.istore_n 2, 1) := by decide +kernel
theorem dX7_twosThatCanWed_2 : decode cX7_twosThatCanWed 2 = .ok (.iconst 0, 1) := by decide +kernel
theorem dX7_twosThatCanWed_3 : decode cX7_twosThatCanWed 3 = .ok (.istore_n 3, 1) := by decide +kernel
theorem dX7_twosThatCanWed_4 : decode cX7_twosThatCanWed 4 = .ok (.iload_n 3, 1) := by decide +kernel
theorem dX7_twosThatCanWed_5 : decode cX7_twosThatCanWed 5 = .ok (.aload_n 0, 1) := by decide +kernel
theorem dX7_twosThatCanWed_6 : decode cX7_twosThatCanWed 6 = .ok (.getfield 27, 3) := by decide +kernel
theorem dX7_twosThatCanWed_9 : decode cX7_twosThatCanWed 9 = .ok (.if_icmp .ge 43, 3) := by decide +kernel
theorem dX7_twosThatCanWed_12 : decode cX7_twosThatCanWed 12 = .ok (.iload_n 3, 1) := by decide +kernel
theorem dX7_twosThatCanWed_13 : decode cX7_twosThatCanWed 13 = .ok (.iconst 1, 1) := by decide +kernel
theorem dX7_twosThatCanWed_14 : decode cX7_twosThatCanWed 14 = .ok (.iadd, 1) := by decide +kernel
theorem dX7_twosThatCanWed_15 : decode cX7_twosThatCanWed 15 = .ok (.istore 4, 2) := by decide +kernel
theorem dX7_twosThatCanWed_17 : decode cX7_twosThatCanWed 17 = .ok (.iload 4, 2) := by decide +kernel
theorem dX7_twosThatCanWed_19 : decode cX7_twosThatCanWed 19 = .ok (.aload_n 0, 1) := by decide +kernel
theorem dX7_twosThatCanWed_20 : decode cX7_twosThatCanWed 20 = .ok (.getfield 27, 3) := by decide +kernel
theorem dX7_twosThatCanWed_23 : decode cX7_twosThatCanWed 23 = .ok (.if_icmp .ge 23, 3) := by decide +kernel
theorem dX7_twosThatCanWed_26 : decode cX7_twosThatCanWed 26 = .ok (.aload_n 0, 1) := by decide +kernel
theorem dX7_twosThatCanWed_27 : decode cX7_twosThatCanWed 27 = .ok (.aload_n 1, 1) := by decide +kernel
theorem dX7_twosThatCanWed_28 : decode cX7_twosThatCanWed 28 = .ok (.iload_n 3, 1) := by decide +kernel
theorem dX7_twosThatCanWed_29 : decode cX7_twosThatCanWed 29 = .ok (.iload 4, 2) := by decide +kernel
theorem dX7_twosThatCanWed_31 : decode cX7_twosThatCanWed 31 = .ok (.invokevirtual 60, 3) := by decide +kernel
theorem dX7_twosThatCanWed_34 : decode cX7_twosThatCanWed 34 = .ok (.ifCond .eq 6, 3) := by decide +kernel
theorem dX7_twosThatCanWed_37 : decode cX7_twosThatCanWed 37 = .ok (.iinc 2 1, 3) := by decide +kernel
theorem dX7_twosThatCanWed_40 : decode cX7_twosThatCanWed 40 = .ok (.iinc 4 1, 3) := by decide +kernel
theorem dX7_twosThatCanWed_43 : decode cX7_twosThatCanWed 43 = .ok (.goto (-26), 3) := by decide +kernel
theorem dX7_twosThatCanWed_46 : decode cX7_twosThatCanWed 46 = .ok (.iinc 3 1, 3) := by decide +kernel
theorem dX7_twosThatCanWed_49 : decode cX7_twosThatCanWed 49 = .ok (.goto (-45), 3) := by decide +kernel
theorem dX7_twosThatCanWed_52 : decode cX7_twosThatCanWed 52 = .ok (.iload_n 2, 1) := by decide +kernel
theorem dX7_twosThatCanWed_53 : decode cX7_twosThatCanWed 53 = .ok (.ireturn, 1) := by decide +kernel
def St_twosThatCanWed_L17 (N : Nat) (q : Int) (M : jMem) (x2 : Int) (h4 : (Int × Int) → Option Int) (h17 : (Int × Int) → Option Int) : Int × Int → Option Int
  | (x4, x5) => (if x5 < (M q 0) then (St_canWed N q x2 x5 M).bind fun r6 => (if r6 = 0 then h17 (x4, (w32 (x5 + 1))) else h17 ((w32 (x4 + 1)), (w32 (x5 + 1)))) else h4 (x4, (w32 (x2 + 1))))
def St_twosThatCanWed_L4 (N : Nat) (q : Int) (M : jMem) (h4 : (Int × Int) → Option Int) : Int × Int → Option Int
  | (x1, x2) => (if x2 < (M q 0) then jlt ((w32 (x2 + 1))) fun v3 => jfix N (St_twosThatCanWed_L17 N q M x2 h4) (x1, v3) else some x1)
def St_twosThatCanWed (N : Nat) (q : Int) (M : jMem) : Option Int := jfix N (St_twosThatCanWed_L4 N q M) (0, 0)
theorem c_St_twosThatCanWed {l : Launch} {g : jG} (N : Nat) (q : Int) (M : jMem) (hq : jk jTX q 7) : ∀ o, St_twosThatCanWed N q M = some o → jCt l g jTX yX7_twosThatCanWed cX7_twosThatCanWed 5 (some .int) 0 5 [(2, q), (2, 15)] M (o, M) := by
  refine jMet (own := RX7) (em := (fun r => (r, M))) (L := [(0, 2, q), (1, 2, 15)]) (by decide +kernel) rfl (Nat.le_of_ble_eq_true rfl) rfl (fun K hR => ?_)
  unfold St_twosThatCanWed
  refine z_iconst (pc := 0) hR dX7_twosThatCanWed_0 rfl ?_
  refine z_istore_n (pc := 1) hR (lv' := [(2, 0, 0), (0, 2, q), (1, 2, 15)]) dX7_twosThatCanWed_1 rfl (by decide) rfl ?_
  refine z_iconst (pc := 2) hR dX7_twosThatCanWed_2 rfl ?_
  refine z_istore_n (pc := 3) hR (lv' := [(3, 0, 0), (2, 0, 0), (0, 2, q), (1, 2, 15)]) dX7_twosThatCanWed_3 rfl (by decide) rfl ?_
  refine z_pick (pc := 4) (lv' := [(0, 2, q), (1, 2, 15), (2, 0, 0), (3, 0, 0)]) hR [2, 3, 1, 0] rfl ?_
  refine z_fix (σ := Int × Int) (lv := fun s => [(0, 2, q), (1, 2, 15), (2, 0, s.1), (3, 0, s.2)]) (st := fun _ => []) (M := fun _ => M) (fun h4 hh4 => ?_) N (0, 0)
  rintro ⟨x1, x2⟩
  show jZ K (fun r => (r, M)) 4 [(0, 2, q), (1, 2, 15), (2, 0, x1), (3, 0, x2)] [] M _
  unfold St_twosThatCanWed_L4
  refine z_iload_n (pc := 4) hR 3 dX7_twosThatCanWed_4 rfl rfl ?_
  refine z_aload_n (pc := 5) hR 0 dX7_twosThatCanWed_5 rfl rfl ?_
  refine z_geti (pc := 6) hR (j := 0) jf_RX7_27 hq (by decide) rfl rfl dX7_twosThatCanWed_6 ?_
  refine z_icmpge (pc := 9) (tgt := 52) hR dX7_twosThatCanWed_9 (by decide) ?_ ?_
  · refine z_iload_n (pc := 52) hR 2 dX7_twosThatCanWed_52 rfl rfl ?_
    exact z_ireturn (pc := 53) hR rfl rfl dX7_twosThatCanWed_53 rfl
  · refine z_iload_n (pc := 12) hR 3 dX7_twosThatCanWed_12 rfl rfl ?_
    refine z_iconst (pc := 13) hR dX7_twosThatCanWed_13 rfl ?_
    refine z_iadd (pc := 14) hR dX7_twosThatCanWed_14 ?_
    refine z_let1 (fun v3 => ?_)
    refine z_istore (pc := 15) hR (lv' := [(4, 0, v3), (0, 2, q), (1, 2, 15), (2, 0, x1), (3, 0, x2)]) dX7_twosThatCanWed_15 (by decide) rfl ?_
    refine z_pick (pc := 17) (lv' := [(0, 2, q), (1, 2, 15), (2, 0, x1), (3, 0, x2), (4, 0, v3)]) hR [1, 2, 3, 4, 0] rfl ?_
    refine z_fix (σ := Int × Int) (lv := fun s => [(0, 2, q), (1, 2, 15), (2, 0, s.1), (3, 0, x2), (4, 0, s.2)]) (st := fun _ => []) (M := fun _ => M) (fun h17 hh17 => ?_) N (x1, v3)
    rintro ⟨x4, x5⟩
    show jZ K (fun r => (r, M)) 17 [(0, 2, q), (1, 2, 15), (2, 0, x4), (3, 0, x2), (4, 0, x5)] [] M _
    unfold St_twosThatCanWed_L17
    refine z_iload (pc := 17) hR 4 dX7_twosThatCanWed_17 rfl ?_
    refine z_aload_n (pc := 19) hR 0 dX7_twosThatCanWed_19 rfl rfl ?_
    refine z_geti (pc := 20) hR (j := 0) jf_RX7_27 hq (by decide) rfl rfl dX7_twosThatCanWed_20 ?_
    refine z_icmpge (pc := 23) (tgt := 46) hR dX7_twosThatCanWed_23 (by decide) ?_ ?_
    · refine z_iinc (pc := 46) hR (j := 3) (lv' := [(3, 0, (w32 (x2 + 1))), (0, 2, q), (1, 2, 15), (2, 0, x4), (4, 0, x5)]) dX7_twosThatCanWed_46 rfl (by decide) rfl ?_
      refine z_goto (pc := 49) (tgt := 4) hR dX7_twosThatCanWed_49 (by decide) ?_
      refine z_pick (pc := 4) (lv' := [(0, 2, q), (1, 2, 15), (2, 0, x4), (3, 0, (w32 (x2 + 1)))]) hR [1, 2, 3, 0] rfl ?_
      exact hh4 (x4, (w32 (x2 + 1)))
    · refine z_aload_n (pc := 26) hR 0 dX7_twosThatCanWed_26 rfl rfl ?_
      refine z_aload_n (pc := 27) hR 1 dX7_twosThatCanWed_27 rfl rfl ?_
      refine z_iload_n (pc := 28) hR 3 dX7_twosThatCanWed_28 rfl rfl ?_
      refine z_iload (pc := 29) hR 4 dX7_twosThatCanWed_29 rfl ?_
      refine z_callvp (pc := 31) hR (As := [(2, 15), (0, x2), (0, x5)]) (st := []) jm_X7_canWed jl_RX7_60 hq (by decide) rfl (by decide) (c_St_canWed N q x2 x5 M hq) rfl (by decide) (by decide) rfl (Nat.le_of_ble_eq_true rfl) dX7_twosThatCanWed_31 (fun r6 => ?_)
      refine z_ifeq (pc := 34) (tgt := 40) hR dX7_twosThatCanWed_34 (by decide) ?_ ?_
      · refine z_iinc (pc := 40) hR (j := 4) (lv' := [(4, 0, (w32 (x5 + 1))), (0, 2, q), (1, 2, 15), (2, 0, x4), (3, 0, x2)]) dX7_twosThatCanWed_40 rfl (by decide) rfl ?_
        refine z_goto (pc := 43) (tgt := 17) hR dX7_twosThatCanWed_43 (by decide) ?_
        refine z_pick (pc := 17) (lv' := [(0, 2, q), (1, 2, 15), (2, 0, x4), (3, 0, x2), (4, 0, (w32 (x5 + 1)))]) hR [1, 2, 3, 4, 0] rfl ?_
        exact hh17 (x4, (w32 (x5 + 1)))
      · refine z_iinc (pc := 37) hR (j := 2) (lv' := [(2, 0, (w32 (x4 + 1))), (0, 2, q), (1, 2, 15), (3, 0, x2), (4, 0, x5)]) dX7_twosThatCanWed_37 rfl (by decide) rfl ?_
        refine z_iinc (pc := 40) hR (j := 4) (lv' := [(4, 0, (w32 (x5 + 1))), (2, 0, (w32 (x4 + 1))), (0, 2, q), (1, 2, 15), (3, 0, x2)]) dX7_twosThatCanWed_40 rfl (by decide) rfl ?_
        refine z_goto (pc := 43) (tgt := 17) hR dX7_twosThatCanWed_43 (by decide) ?_
        refine z_pick (pc := 17) (lv' := [(0, 2, q), (1, 2, 15), (2, 0, (w32 (x4 + 1))), (3, 0, x2), (4, 0, (w32 (x5 + 1)))]) hR [2, 3, 1, 4, 0] rfl ?_
        exact hh17 ((w32 (x4 + 1)), (w32 (x5 + 1)))
theorem dX7_copyFrom_0 : decode cX7_copyFrom 0 = .ok (.aload_n 0, 1) := by decide +kernel
theorem dX7_copyFrom_1 : decode cX7_copyFrom 1 = .ok (.aload_n 1, 1) := by decide +kernel
theorem dX7_copyFrom_2 : decode cX7_copyFrom 2 = .ok (.getfield 27, 3) := by decide +kernel
theorem dX7_copyFrom_5 : decode cX7_copyFrom 5 = .ok (.putfield 27, 3) := by decide +kernel
theorem dX7_copyFrom_8 : decode cX7_copyFrom 8 = .ok (.aload_n 0, 1) := by decide +kernel
theorem dX7_copyFrom_9 : decode cX7_copyFrom 9 = .ok (.aload_n 1, 1) := by decide +kernel
theorem dX7_copyFrom_10 : decode cX7_copyFrom 10 = .ok (.getfield 31, 3) := by decide +kernel
theorem dX7_copyFrom_13 : decode cX7_copyFrom 13 = .ok (.putfield 31, 3) := by decide +kernel
theorem dX7_copyFrom_16 : decode cX7_copyFrom 16 = .ok (.aload_n 1, 1) := by decide +kernel
theorem dX7_copyFrom_17 : decode cX7_copyFrom 17 = .ok (.getfield 9, 3) := by decide +kernel
theorem dX7_copyFrom_20 : decode cX7_copyFrom 20 = .ok (.iconst 0, 1) := by decide +kernel
theorem dX7_copyFrom_21 : decode cX7_copyFrom 21 = .ok (.aload_n 0, 1) := by decide +kernel
theorem dX7_copyFrom_22 : decode cX7_copyFrom 22 = .ok (.getfield 9, 3) := by decide +kernel
theorem dX7_copyFrom_25 : decode cX7_copyFrom 25 = .ok (.iconst 0, 1) := by decide +kernel
theorem dX7_copyFrom_26 : decode cX7_copyFrom 26 = .ok (.bipush 7, 2) := by decide +kernel
theorem dX7_copyFrom_28 : decode cX7_copyFrom 28 = .ok (.invokestatic 34, 3) := by decide +kernel
theorem dX7_copyFrom_31 : decode cX7_copyFrom 31 = .ok (.aload_n 1, 1) := by decide +kernel
theorem dX7_copyFrom_32 : decode cX7_copyFrom 32 = .ok (.getfield 15, 3) := by decide +kernel
theorem dX7_copyFrom_35 : decode cX7_copyFrom 35 = .ok (.iconst 0, 1) := by decide +kernel
theorem dX7_copyFrom_36 : decode cX7_copyFrom 36 = .ok (.aload_n 0, 1) := by decide +kernel
theorem dX7_copyFrom_37 : decode cX7_copyFrom 37 = .ok (.getfield 15, 3) := by decide +kernel
theorem dX7_copyFrom_40 : decode cX7_copyFrom 40 = .ok (.iconst 0, 1) := by decide +kernel
theorem dX7_copyFrom_41 : decode cX7_copyFrom 41 = .ok (.bipush 7, 2) := by decide +kernel
theorem dX7_copyFrom_43 : decode cX7_copyFrom 43 = .ok (.invokestatic 34, 3) := by decide +kernel
theorem dX7_copyFrom_46 : decode cX7_copyFrom 46 = .ok (.aload_n 1, 1) := by decide +kernel
theorem dX7_copyFrom_47 : decode cX7_copyFrom 47 = .ok (.getfield 18, 3) := by decide +kernel
theorem dX7_copyFrom_50 : decode cX7_copyFrom 50 = .ok (.iconst 0, 1) := by decide +kernel
theorem dX7_copyFrom_51 : decode cX7_copyFrom 51 = .ok (.aload_n 0, 1) := by decide +kernel
theorem dX7_copyFrom_52 : decode cX7_copyFrom 52 = .ok (.getfield 18, 3) := by decide +kernel
theorem dX7_copyFrom_55 : decode cX7_copyFrom 55 = .ok (.iconst 0, 1) := by decide +kernel
theorem dX7_copyFrom_56 : decode cX7_copyFrom 56 = .ok (.bipush 7, 2) := by decide +kernel
theorem dX7_copyFrom_58 : decode cX7_copyFrom 58 = .ok (.invokestatic 34, 3) := by decide +kernel
theorem dX7_copyFrom_61 : decode cX7_copyFrom 61 = .ok (.aload_n 1, 1) := by decide +kernel
theorem dX7_copyFrom_62 : decode cX7_copyFrom 62 = .ok (.getfield 21, 3) := by decide +kernel
theorem dX7_copyFrom_65 : decode cX7_copyFrom 65 = .ok (.iconst 0, 1) := by decide +kernel
theorem dX7_copyFrom_66 : decode cX7_copyFrom 66 = .ok (.aload_n 0, 1) := by decide +kernel
theorem dX7_copyFrom_67 : decode cX7_copyFrom 67 = .ok (.getfield 21, 3) := by decide +kernel
theorem dX7_copyFrom_70 : decode cX7_copyFrom 70 = .ok (.iconst 0, 1) := by decide +kernel
theorem dX7_copyFrom_71 : decode cX7_copyFrom 71 = .ok (.bipush 7, 2) := by decide +kernel
theorem dX7_copyFrom_73 : decode cX7_copyFrom 73 = .ok (.invokestatic 34, 3) := by decide +kernel
theorem dX7_copyFrom_76 : decode cX7_copyFrom 76 = .ok (.aload_n 1, 1) := by decide +kernel
theorem dX7_copyFrom_77 : decode cX7_copyFrom 77 = .ok (.getfield 24, 3) := by decide +kernel
theorem dX7_copyFrom_80 : decode cX7_copyFrom 80 = .ok (.iconst 0, 1) := by decide +kernel
theorem dX7_copyFrom_81 : decode cX7_copyFrom 81 = .ok (.aload_n 0, 1) := by decide +kernel
theorem dX7_copyFrom_82 : decode cX7_copyFrom 82 = .ok (.getfield 24, 3) := by decide +kernel
theorem dX7_copyFrom_85 : decode cX7_copyFrom 85 = .ok (.iconst 0, 1) := by decide +kernel
theorem dX7_copyFrom_86 : decode cX7_copyFrom 86 = .ok (.bipush 7, 2) := by decide +kernel
theorem dX7_copyFrom_88 : decode cX7_copyFrom 88 = .ok (.invokestatic 34, 3) := by decide +kernel
theorem dX7_copyFrom_91 : decode cX7_copyFrom 91 = .ok (.return_, 1) := by decide +kernel
def St_copyFrom (N : Nat) (q a1 : Int) (M : jMem) : Option (Int × jMem) := jlt (up M q 0 ((M a1 0))) fun M1 => jlt (up M1 q 1 ((M1 a1 1))) fun M2 => jlt (jcp M2 ((a1 + 1)) ((q + 1)) 7) fun M3 => jlt (jcp M3 ((a1 + 2)) ((q + 2)) 7) fun M4 => jlt (jcp M4 ((a1 + 3)) ((q + 3)) 7) fun M5 => jlt (jcp M5 ((a1 + 4)) ((q + 4)) 7) fun M6 => jlt (jcp M6 ((a1 + 5)) ((q + 5)) 7) fun M7 => some (0, M7)
theorem c_St_copyFrom {l : Launch} {g : jG} (N : Nat) (q a1 : Int) (M : jMem) (hq : jk jTX q 7) (ha1 : jk jTX a1 7) : ∀ o, St_copyFrom N q a1 M = some o → jCt l g jTX yX7_copyFrom cX7_copyFrom 2 none 3 2 [(2, q), (2, a1)] M o := by
  refine jMet (own := RX7) (em := id) (L := [(0, 2, q), (1, 2, a1)]) (by decide +kernel) rfl (Nat.le_of_ble_eq_true rfl) rfl (fun K hR => ?_)
  unfold St_copyFrom
  refine z_aload_n (pc := 0) hR 0 dX7_copyFrom_0 rfl rfl ?_
  refine z_aload_n (pc := 1) hR 1 dX7_copyFrom_1 rfl rfl ?_
  refine z_geti (pc := 2) hR (j := 0) jf_RX7_27 ha1 (by decide) rfl rfl dX7_copyFrom_2 ?_
  refine z_puti (pc := 5) hR (j := 0) jp_RX7_27 hq (by decide) rfl rfl rfl rfl dX7_copyFrom_5 (fun M1 => ?_)
  refine z_aload_n (pc := 8) hR 0 dX7_copyFrom_8 rfl rfl ?_
  refine z_aload_n (pc := 9) hR 1 dX7_copyFrom_9 rfl rfl ?_
  refine z_geti (pc := 10) hR (j := 1) jf_RX7_31 ha1 (by decide) rfl rfl dX7_copyFrom_10 ?_
  refine z_puti (pc := 13) hR (j := 1) jp_RX7_31 hq (by decide) rfl rfl rfl rfl dX7_copyFrom_13 (fun M2 => ?_)
  refine z_aload_n (pc := 16) hR 1 dX7_copyFrom_16 rfl rfl ?_
  refine z_getr (pc := 17) hR (c0 := 1) (r := (a1 + 1)) jf_RX7_9 ha1 (by decide) rfl rfl dX7_copyFrom_17 ?_
  refine z_iconst (pc := 20) hR dX7_copyFrom_20 rfl ?_
  refine z_aload_n (pc := 21) hR 0 dX7_copyFrom_21 rfl rfl ?_
  refine z_getr (pc := 22) hR (c0 := 1) (r := (q + 1)) jf_RX7_9 hq (by decide) rfl rfl dX7_copyFrom_22 ?_
  refine z_iconst (pc := 25) hR dX7_copyFrom_25 rfl ?_
  refine z_bipush (pc := 26) hR dX7_copyFrom_26 rfl ?_
  refine z_copy (pc := 28) hR (n := 7) jl_RX7_34 jw_cp_n jw_cp_s jw_System (kf_7_depth ha1) (kf_7_depth hq) rfl (by decide) (by decide) (by decide) (by decide) dX7_copyFrom_28 (fun M3 => ?_)
  refine z_aload_n (pc := 31) hR 1 dX7_copyFrom_31 rfl rfl ?_
  refine z_getr (pc := 32) hR (c0 := 2) (r := (a1 + 2)) jf_RX7_15 ha1 (by decide) rfl rfl dX7_copyFrom_32 ?_
  refine z_iconst (pc := 35) hR dX7_copyFrom_35 rfl ?_
  refine z_aload_n (pc := 36) hR 0 dX7_copyFrom_36 rfl rfl ?_
  refine z_getr (pc := 37) hR (c0 := 2) (r := (q + 2)) jf_RX7_15 hq (by decide) rfl rfl dX7_copyFrom_37 ?_
  refine z_iconst (pc := 40) hR dX7_copyFrom_40 rfl ?_
  refine z_bipush (pc := 41) hR dX7_copyFrom_41 rfl ?_
  refine z_copy (pc := 43) hR (n := 7) jl_RX7_34 jw_cp_n jw_cp_s jw_System (kf_7_taste ha1) (kf_7_taste hq) rfl (by decide) (by decide) (by decide) (by decide) dX7_copyFrom_43 (fun M4 => ?_)
  refine z_aload_n (pc := 46) hR 1 dX7_copyFrom_46 rfl rfl ?_
  refine z_getr (pc := 47) hR (c0 := 3) (r := (a1 + 3)) jf_RX7_18 ha1 (by decide) rfl rfl dX7_copyFrom_47 ?_
  refine z_iconst (pc := 50) hR dX7_copyFrom_50 rfl ?_
  refine z_aload_n (pc := 51) hR 0 dX7_copyFrom_51 rfl rfl ?_
  refine z_getr (pc := 52) hR (c0 := 3) (r := (q + 3)) jf_RX7_18 hq (by decide) rfl rfl dX7_copyFrom_52 ?_
  refine z_iconst (pc := 55) hR dX7_copyFrom_55 rfl ?_
  refine z_bipush (pc := 56) hR dX7_copyFrom_56 rfl ?_
  refine z_copy (pc := 58) hR (n := 7) jl_RX7_34 jw_cp_n jw_cp_s jw_System (kf_7_water ha1) (kf_7_water hq) rfl (by decide) (by decide) (by decide) (by decide) dX7_copyFrom_58 (fun M5 => ?_)
  refine z_aload_n (pc := 61) hR 1 dX7_copyFrom_61 rfl rfl ?_
  refine z_getr (pc := 62) hR (c0 := 4) (r := (a1 + 4)) jf_RX7_21 ha1 (by decide) rfl rfl dX7_copyFrom_62 ?_
  refine z_iconst (pc := 65) hR dX7_copyFrom_65 rfl ?_
  refine z_aload_n (pc := 66) hR 0 dX7_copyFrom_66 rfl rfl ?_
  refine z_getr (pc := 67) hR (c0 := 4) (r := (q + 4)) jf_RX7_21 hq (by decide) rfl rfl dX7_copyFrom_67 ?_
  refine z_iconst (pc := 70) hR dX7_copyFrom_70 rfl ?_
  refine z_bipush (pc := 71) hR dX7_copyFrom_71 rfl ?_
  refine z_copy (pc := 73) hR (n := 7) jl_RX7_34 jw_cp_n jw_cp_s jw_System (kf_7_has ha1) (kf_7_has hq) rfl (by decide) (by decide) (by decide) (by decide) dX7_copyFrom_73 (fun M6 => ?_)
  refine z_aload_n (pc := 76) hR 1 dX7_copyFrom_76 rfl rfl ?_
  refine z_getr (pc := 77) hR (c0 := 5) (r := (a1 + 5)) jf_RX7_24 ha1 (by decide) rfl rfl dX7_copyFrom_77 ?_
  refine z_iconst (pc := 80) hR dX7_copyFrom_80 rfl ?_
  refine z_aload_n (pc := 81) hR 0 dX7_copyFrom_81 rfl rfl ?_
  refine z_getr (pc := 82) hR (c0 := 5) (r := (q + 5)) jf_RX7_24 hq (by decide) rfl rfl dX7_copyFrom_82 ?_
  refine z_iconst (pc := 85) hR dX7_copyFrom_85 rfl ?_
  refine z_bipush (pc := 86) hR dX7_copyFrom_86 rfl ?_
  refine z_copy (pc := 88) hR (n := 7) jl_RX7_34 jw_cp_n jw_cp_s jw_System (kf_7_heirs ha1) (kf_7_heirs hq) rfl (by decide) (by decide) (by decide) (by decide) dX7_copyFrom_88 (fun M7 => ?_)
  exact z_return (x := 0) (pc := 91) hR rfl rfl dX7_copyFrom_91 rfl
theorem dX10_firstTwo_0 : decode cX10_firstTwo 0 = .ok (.iconst 0, 1) := by decide +kernel
theorem dX10_firstTwo_1 : decode cX10_firstTwo 1 = .ok (.istore_n 2, 1) := by decide +kernel
theorem dX10_firstTwo_2 : decode cX10_firstTwo 2 = .ok (.iload_n 2, 1) := by decide +kernel
theorem dX10_firstTwo_3 : decode cX10_firstTwo 3 = .ok (.aload_n 1, 1) := by decide +kernel
theorem dX10_firstTwo_4 : decode cX10_firstTwo 4 = .ok (.getfield 50, 3) := by decide +kernel
theorem dX10_firstTwo_7 : decode cX10_firstTwo 7 = .ok (.if_icmp .ge 44, 3) := by decide +kernel
theorem dX10_firstTwo_10 : decode cX10_firstTwo 10 = .ok (.iload_n 2, 1) := by decide +kernel
theorem dX10_firstTwo_11 : decode cX10_firstTwo 11 = .ok (.iconst 1, 1) := by decide +kernel
theorem dX10_firstTwo_12 : decode cX10_firstTwo 12 = .ok (.iadd, 1) := by decide +kernel
theorem dX10_firstTwo_13 : decode cX10_firstTwo 13 = .ok (.istore_n 3, 1) := by decide +kernel
theorem dX10_firstTwo_14 : decode cX10_firstTwo 14 = .ok (.iload_n 3, 1) := by decide +kernel
theorem dX10_firstTwo_15 : decode cX10_firstTwo 15 = .ok (.aload_n 1, 1) := by decide +kernel
theorem dX10_firstTwo_16 : decode cX10_firstTwo 16 = .ok (.getfield 50, 3) := by decide +kernel
theorem dX10_firstTwo_19 : decode cX10_firstTwo 19 = .ok (.if_icmp .ge 26, 3) := by decide +kernel
theorem dX10_firstTwo_22 : decode cX10_firstTwo 22 = .ok (.aload_n 1, 1) := by decide +kernel
theorem dX10_firstTwo_23 : decode cX10_firstTwo 23 = .ok (.aload_n 0, 1) := by decide +kernel
theorem dX10_firstTwo_24 : decode cX10_firstTwo 24 = .ok (.iload_n 2, 1) := by decide +kernel
theorem dX10_firstTwo_25 : decode cX10_firstTwo 25 = .ok (.iload_n 3, 1) := by decide +kernel
theorem dX10_firstTwo_26 : decode cX10_firstTwo 26 = .ok (.invokevirtual 57, 3) := by decide +kernel
theorem dX10_firstTwo_29 : decode cX10_firstTwo 29 = .ok (.ifCond .eq 10, 3) := by decide +kernel
theorem dX10_firstTwo_32 : decode cX10_firstTwo 32 = .ok (.bipush 8, 2) := by decide +kernel
theorem dX10_firstTwo_34 : decode cX10_firstTwo 34 = .ok (.iload_n 2, 1) := by decide +kernel
theorem dX10_firstTwo_35 : decode cX10_firstTwo 35 = .ok (.imul, 1) := by decide +kernel
theorem dX10_firstTwo_36 : decode cX10_firstTwo 36 = .ok (.iload_n 3, 1) := by decide +kernel
theorem dX10_firstTwo_37 : decode cX10_firstTwo 37 = .ok (.iadd, 1) := by decide +kernel
theorem dX10_firstTwo_38 : decode cX10_firstTwo 38 = .ok (.ireturn, 1) := by decide +kernel
theorem dX10_firstTwo_39 : decode cX10_firstTwo 39 = .ok (.iinc 3 1, 3) := by decide +kernel
theorem dX10_firstTwo_42 : decode cX10_firstTwo 42 = .ok (.goto (-28), 3) := by decide +kernel
theorem dX10_firstTwo_45 : decode cX10_firstTwo 45 = .ok (.iinc 2 1, 3) := by decide +kernel
theorem dX10_firstTwo_48 : decode cX10_firstTwo 48 = .ok (.goto (-46), 3) := by decide +kernel
theorem dX10_firstTwo_51 : decode cX10_firstTwo 51 = .ok (.bipush (-2), 2) := by decide +kernel
theorem dX10_firstTwo_53 : decode cX10_firstTwo 53 = .ok (.ireturn, 1) := by decide +kernel
def Ye_firstTwo_L14 (N : Nat) (a1 : Int) (M : jMem) (x1 : Int) (h2 : Int → Option Int) (h14 : Int → Option Int) : Int → Option Int
  | x3 => (if x3 < (M a1 0) then (St_canWed N a1 x1 x3 M).bind fun r4 => (if r4 = 0 then h14 ((w32 (x3 + 1))) else some ((w32 (((w32 (8 * x1))) + x3)))) else h2 ((w32 (x1 + 1))))
def Ye_firstTwo_L2 (N : Nat) (a1 : Int) (M : jMem) (h2 : Int → Option Int) : Int → Option Int
  | x1 => (if x1 < (M a1 0) then jlt ((w32 (x1 + 1))) fun v2 => jfix N (Ye_firstTwo_L14 N a1 M x1 h2) v2 else some ((-2)))
def Ye_firstTwo (N : Nat) (a1 : Int) (M : jMem) : Option Int := jfix N (Ye_firstTwo_L2 N a1 M) 0
theorem c_Ye_firstTwo {l : Launch} {g : jG} (N : Nat) (a1 : Int) (M : jMem) (ha1 : jk jTX a1 7) : ∀ o, Ye_firstTwo N a1 M = some o → jCt l g jTX yX10_firstTwo cX10_firstTwo 4 (some .int) 0 5 [(2, 15), (2, a1)] M (o, M) := by
  refine jMet (own := RX10) (em := (fun r => (r, M))) (L := [(0, 2, 15), (1, 2, a1)]) (by decide +kernel) rfl (Nat.le_of_ble_eq_true rfl) rfl (fun K hR => ?_)
  unfold Ye_firstTwo
  refine z_iconst (pc := 0) hR dX10_firstTwo_0 rfl ?_
  refine z_istore_n (pc := 1) hR (lv' := [(2, 0, 0), (0, 2, 15), (1, 2, a1)]) dX10_firstTwo_1 rfl (by decide) rfl ?_
  refine z_pick (pc := 2) (lv' := [(0, 2, 15), (1, 2, a1), (2, 0, 0)]) hR [1, 2, 0] rfl ?_
  refine z_fix (σ := Int) (lv := fun s => [(0, 2, 15), (1, 2, a1), (2, 0, s)]) (st := fun _ => []) (M := fun _ => M) (fun h2 hh2 => ?_) N 0
  intro x1
  show jZ K (fun r => (r, M)) 2 [(0, 2, 15), (1, 2, a1), (2, 0, x1)] [] M _
  unfold Ye_firstTwo_L2
  refine z_iload_n (pc := 2) hR 2 dX10_firstTwo_2 rfl rfl ?_
  refine z_aload_n (pc := 3) hR 1 dX10_firstTwo_3 rfl rfl ?_
  refine z_geti (pc := 4) hR (j := 0) jf_RX10_50 ha1 (by decide) rfl rfl dX10_firstTwo_4 ?_
  refine z_icmpge (pc := 7) (tgt := 51) hR dX10_firstTwo_7 (by decide) ?_ ?_
  · refine z_bipush (pc := 51) hR dX10_firstTwo_51 rfl ?_
    exact z_ireturn (pc := 53) hR rfl rfl dX10_firstTwo_53 rfl
  · refine z_iload_n (pc := 10) hR 2 dX10_firstTwo_10 rfl rfl ?_
    refine z_iconst (pc := 11) hR dX10_firstTwo_11 rfl ?_
    refine z_iadd (pc := 12) hR dX10_firstTwo_12 ?_
    refine z_let1 (fun v2 => ?_)
    refine z_istore_n (pc := 13) hR (lv' := [(3, 0, v2), (0, 2, 15), (1, 2, a1), (2, 0, x1)]) dX10_firstTwo_13 rfl (by decide) rfl ?_
    refine z_pick (pc := 14) (lv' := [(0, 2, 15), (1, 2, a1), (2, 0, x1), (3, 0, v2)]) hR [1, 2, 3, 0] rfl ?_
    refine z_fix (σ := Int) (lv := fun s => [(0, 2, 15), (1, 2, a1), (2, 0, x1), (3, 0, s)]) (st := fun _ => []) (M := fun _ => M) (fun h14 hh14 => ?_) N v2
    intro x3
    show jZ K (fun r => (r, M)) 14 [(0, 2, 15), (1, 2, a1), (2, 0, x1), (3, 0, x3)] [] M _
    unfold Ye_firstTwo_L14
    refine z_iload_n (pc := 14) hR 3 dX10_firstTwo_14 rfl rfl ?_
    refine z_aload_n (pc := 15) hR 1 dX10_firstTwo_15 rfl rfl ?_
    refine z_geti (pc := 16) hR (j := 0) jf_RX10_50 ha1 (by decide) rfl rfl dX10_firstTwo_16 ?_
    refine z_icmpge (pc := 19) (tgt := 45) hR dX10_firstTwo_19 (by decide) ?_ ?_
    · refine z_iinc (pc := 45) hR (j := 2) (lv' := [(2, 0, (w32 (x1 + 1))), (0, 2, 15), (1, 2, a1), (3, 0, x3)]) dX10_firstTwo_45 rfl (by decide) rfl ?_
      refine z_goto (pc := 48) (tgt := 2) hR dX10_firstTwo_48 (by decide) ?_
      refine z_pick (pc := 2) (lv' := [(0, 2, 15), (1, 2, a1), (2, 0, (w32 (x1 + 1)))]) hR [1, 2, 0] rfl ?_
      exact hh2 ((w32 (x1 + 1)))
    · refine z_aload_n (pc := 22) hR 1 dX10_firstTwo_22 rfl rfl ?_
      refine z_aload_n (pc := 23) hR 0 dX10_firstTwo_23 rfl rfl ?_
      refine z_iload_n (pc := 24) hR 2 dX10_firstTwo_24 rfl rfl ?_
      refine z_iload_n (pc := 25) hR 3 dX10_firstTwo_25 rfl rfl ?_
      refine z_callvp (pc := 26) hR (As := [(2, 15), (0, x1), (0, x3)]) (st := []) jm_X7_canWed jl_RX10_57 ha1 (by decide) rfl (by decide) (c_St_canWed N a1 x1 x3 M ha1) rfl (by decide) (by decide) rfl (Nat.le_of_ble_eq_true rfl) dX10_firstTwo_26 (fun r4 => ?_)
      refine z_ifeq (pc := 29) (tgt := 39) hR dX10_firstTwo_29 (by decide) ?_ ?_
      · refine z_iinc (pc := 39) hR (j := 3) (lv' := [(3, 0, (w32 (x3 + 1))), (0, 2, 15), (1, 2, a1), (2, 0, x1)]) dX10_firstTwo_39 rfl (by decide) rfl ?_
        refine z_goto (pc := 42) (tgt := 14) hR dX10_firstTwo_42 (by decide) ?_
        refine z_pick (pc := 14) (lv' := [(0, 2, 15), (1, 2, a1), (2, 0, x1), (3, 0, (w32 (x3 + 1)))]) hR [1, 2, 3, 0] rfl ?_
        exact hh14 ((w32 (x3 + 1)))
      · refine z_bipush (pc := 32) hR dX10_firstTwo_32 rfl ?_
        refine z_iload_n (pc := 34) hR 2 dX10_firstTwo_34 rfl rfl ?_
        refine z_imul (pc := 35) hR dX10_firstTwo_35 ?_
        refine z_iload_n (pc := 36) hR 3 dX10_firstTwo_36 rfl rfl ?_
        refine z_iadd (pc := 37) hR dX10_firstTwo_37 ?_
        exact z_ireturn (pc := 38) hR rfl rfl dX10_firstTwo_38 rfl
theorem dX7_marry_0 : decode cX7_marry 0 = .ok (.aload_n 0, 1) := by decide +kernel
theorem dX7_marry_1 : decode cX7_marry 1 = .ok (.getfield 21, 3) := by decide +kernel
theorem dX7_marry_4 : decode cX7_marry 4 = .ok (.iload_n 1, 1) := by decide +kernel
theorem dX7_marry_5 : decode cX7_marry 5 = .ok (.iaload, 1) := by decide +kernel
theorem dX7_marry_6 : decode cX7_marry 6 = .ok (.istore_n 3, 1) := by decide +kernel
theorem dX7_marry_7 : decode cX7_marry 7 = .ok (.aload_n 0, 1) := by decide +kernel
theorem dX7_marry_8 : decode cX7_marry 8 = .ok (.getfield 21, 3) := by decide +kernel
theorem dX7_marry_11 : decode cX7_marry 11 = .ok (.iload_n 2, 1) := by decide +kernel
theorem dX7_marry_12 : decode cX7_marry 12 = .ok (.iaload, 1) := by decide +kernel
theorem dX7_marry_13 : decode cX7_marry 13 = .ok (.istore 4, 2) := by decide +kernel
theorem dX7_marry_15 : decode cX7_marry 15 = .ok (.aload_n 0, 1) := by decide +kernel
theorem dX7_marry_16 : decode cX7_marry 16 = .ok (.getfield 15, 3) := by decide +kernel
theorem dX7_marry_19 : decode cX7_marry 19 = .ok (.iload_n 3, 1) := by decide +kernel
theorem dX7_marry_20 : decode cX7_marry 20 = .ok (.iaload, 1) := by decide +kernel
theorem dX7_marry_21 : decode cX7_marry 21 = .ok (.istore 5, 2) := by decide +kernel
theorem dX7_marry_23 : decode cX7_marry 23 = .ok (.aload_n 0, 1) := by decide +kernel
theorem dX7_marry_24 : decode cX7_marry 24 = .ok (.getfield 15, 3) := by decide +kernel
theorem dX7_marry_27 : decode cX7_marry 27 = .ok (.iload 4, 2) := by decide +kernel
theorem dX7_marry_29 : decode cX7_marry 29 = .ok (.iaload, 1) := by decide +kernel
theorem dX7_marry_30 : decode cX7_marry 30 = .ok (.istore 6, 2) := by decide +kernel
theorem dX7_marry_32 : decode cX7_marry 32 = .ok (.aload_n 0, 1) := by decide +kernel
theorem dX7_marry_33 : decode cX7_marry 33 = .ok (.getfield 15, 3) := by decide +kernel
theorem dX7_marry_36 : decode cX7_marry 36 = .ok (.iload_n 3, 1) := by decide +kernel
theorem dX7_marry_37 : decode cX7_marry 37 = .ok (.iload 5, 2) := by decide +kernel
theorem dX7_marry_39 : decode cX7_marry 39 = .ok (.iload 6, 2) := by decide +kernel
theorem dX7_marry_41 : decode cX7_marry 41 = .ok (.iload 5, 2) := by decide +kernel
theorem dX7_marry_43 : decode cX7_marry 43 = .ok (.isub, 1) := by decide +kernel
theorem dX7_marry_44 : decode cX7_marry 44 = .ok (.iconst 3, 1) := by decide +kernel
theorem dX7_marry_45 : decode cX7_marry 45 = .ok (.idiv, 1) := by decide +kernel
theorem dX7_marry_46 : decode cX7_marry 46 = .ok (.iadd, 1) := by decide +kernel
theorem dX7_marry_47 : decode cX7_marry 47 = .ok (.iastore, 1) := by decide +kernel
theorem dX7_marry_48 : decode cX7_marry 48 = .ok (.aload_n 0, 1) := by decide +kernel
theorem dX7_marry_49 : decode cX7_marry 49 = .ok (.getfield 15, 3) := by decide +kernel
theorem dX7_marry_52 : decode cX7_marry 52 = .ok (.iload 4, 2) := by decide +kernel
theorem dX7_marry_54 : decode cX7_marry 54 = .ok (.iload 6, 2) := by decide +kernel
theorem dX7_marry_56 : decode cX7_marry 56 = .ok (.iload 5, 2) := by decide +kernel
theorem dX7_marry_58 : decode cX7_marry 58 = .ok (.iload 6, 2) := by decide +kernel
theorem dX7_marry_60 : decode cX7_marry 60 = .ok (.isub, 1) := by decide +kernel
theorem dX7_marry_61 : decode cX7_marry 61 = .ok (.iconst 3, 1) := by decide +kernel
theorem dX7_marry_62 : decode cX7_marry 62 = .ok (.idiv, 1) := by decide +kernel
theorem dX7_marry_63 : decode cX7_marry 63 = .ok (.iadd, 1) := by decide +kernel
theorem dX7_marry_64 : decode cX7_marry 64 = .ok (.iastore, 1) := by decide +kernel
theorem dX7_marry_65 : decode cX7_marry 65 = .ok (.aload_n 0, 1) := by decide +kernel
theorem dX7_marry_66 : decode cX7_marry 66 = .ok (.getfield 21, 3) := by decide +kernel
theorem dX7_marry_69 : decode cX7_marry 69 = .ok (.iload_n 1, 1) := by decide +kernel
theorem dX7_marry_70 : decode cX7_marry 70 = .ok (.iload 4, 2) := by decide +kernel
theorem dX7_marry_72 : decode cX7_marry 72 = .ok (.iastore, 1) := by decide +kernel
theorem dX7_marry_73 : decode cX7_marry 73 = .ok (.aload_n 0, 1) := by decide +kernel
theorem dX7_marry_74 : decode cX7_marry 74 = .ok (.getfield 21, 3) := by decide +kernel
theorem dX7_marry_77 : decode cX7_marry 77 = .ok (.iload_n 2, 1) := by decide +kernel
theorem dX7_marry_78 : decode cX7_marry 78 = .ok (.iload_n 3, 1) := by decide +kernel
theorem dX7_marry_79 : decode cX7_marry 79 = .ok (.iastore, 1) := by decide +kernel
theorem dX7_marry_80 : decode cX7_marry 80 = .ok (.aload_n 0, 1) := by decide +kernel
theorem dX7_marry_81 : decode cX7_marry 81 = .ok (.getfield 24, 3) := by decide +kernel
theorem dX7_marry_84 : decode cX7_marry 84 = .ok (.iload_n 1, 1) := by decide +kernel
theorem dX7_marry_85 : decode cX7_marry 85 = .ok (.dup2, 1) := by decide +kernel
theorem dX7_marry_86 : decode cX7_marry 86 = .ok (.iaload, 1) := by decide +kernel
theorem dX7_marry_87 : decode cX7_marry 87 = .ok (.iconst 1, 1) := by decide +kernel
theorem dX7_marry_88 : decode cX7_marry 88 = .ok (.isub, 1) := by decide +kernel
theorem dX7_marry_89 : decode cX7_marry 89 = .ok (.iastore, 1) := by decide +kernel
theorem dX7_marry_90 : decode cX7_marry 90 = .ok (.aload_n 0, 1) := by decide +kernel
theorem dX7_marry_91 : decode cX7_marry 91 = .ok (.getfield 24, 3) := by decide +kernel
theorem dX7_marry_94 : decode cX7_marry 94 = .ok (.iload_n 2, 1) := by decide +kernel
theorem dX7_marry_95 : decode cX7_marry 95 = .ok (.dup2, 1) := by decide +kernel
theorem dX7_marry_96 : decode cX7_marry 96 = .ok (.iaload, 1) := by decide +kernel
theorem dX7_marry_97 : decode cX7_marry 97 = .ok (.iconst 1, 1) := by decide +kernel
theorem dX7_marry_98 : decode cX7_marry 98 = .ok (.isub, 1) := by decide +kernel
theorem dX7_marry_99 : decode cX7_marry 99 = .ok (.iastore, 1) := by decide +kernel
theorem dX7_marry_100 : decode cX7_marry 100 = .ok (.return_, 1) := by decide +kernel
def St_marry (N : Nat) (q a1 a2 : Int) (M : jMem) : Option (Int × jMem) := jchk (0 ≤ a1 ∧ a1 < 7) <| jlt ((M ((q + 4)) a1)) fun v2 => jchk (0 ≤ a2 ∧ a2 < 7) <| jlt ((M ((q + 4)) a2)) fun v4 => jchk (0 ≤ v2 ∧ v2 < 7) <| jlt ((M ((q + 2)) v2)) fun v6 => jchk (0 ≤ v4 ∧ v4 < 7) <| jlt ((M ((q + 2)) v4)) fun v8 => jchk (0 ≤ v2 ∧ v2 < 7) <| jlt (up M ((q + 2)) v2 ((w32 (v6 + ((w32 (((w32 (v8 - v6))).tdiv 3))))))) fun M10 => jchk (0 ≤ v4 ∧ v4 < 7) <| jlt (up M10 ((q + 2)) v4 ((w32 (v8 + ((w32 (((w32 (v6 - v8))).tdiv 3))))))) fun M12 => jchk (0 ≤ a1 ∧ a1 < 7) <| jlt (up M12 ((q + 4)) a1 v4) fun M14 => jchk (0 ≤ a2 ∧ a2 < 7) <| jlt (up M14 ((q + 4)) a2 v2) fun M16 => jchk (0 ≤ a1 ∧ a1 < 7) <| jchk (0 ≤ a1 ∧ a1 < 7) <| jlt (up M16 ((q + 5)) a1 ((w32 (((M16 ((q + 5)) a1)) - 1)))) fun M19 => jchk (0 ≤ a2 ∧ a2 < 7) <| jchk (0 ≤ a2 ∧ a2 < 7) <| jlt (up M19 ((q + 5)) a2 ((w32 (((M19 ((q + 5)) a2)) - 1)))) fun M22 => some (0, M22)
theorem c_St_marry {l : Launch} {g : jG} (N : Nat) (q a1 a2 : Int) (M : jMem) (hq : jk jTX q 7) : ∀ o, St_marry N q a1 a2 M = some o → jCt l g jTX yX7_marry cX7_marry 7 none 3 1 [(2, q), (0, a1), (0, a2)] M o := by
  refine jMet (own := RX7) (em := id) (L := [(0, 2, q), (1, 0, a1), (2, 0, a2)]) (by decide +kernel) rfl (Nat.le_of_ble_eq_true rfl) rfl (fun K hR => ?_)
  unfold St_marry
  refine z_aload_n (pc := 0) hR 0 dX7_marry_0 rfl rfl ?_
  refine z_getr (pc := 1) hR (c0 := 4) (r := (q + 4)) jf_RX7_21 hq (by decide) rfl rfl dX7_marry_1 ?_
  refine z_iload_n (pc := 4) hR 1 dX7_marry_4 rfl rfl ?_
  refine z_chk (fun hc1 => ?_)
  refine z_iald (pc := 5) hR (n := 7) (kf_7_has hq) hc1.1 hc1.2 dX7_marry_5 ?_
  refine z_let1 (fun v2 => ?_)
  refine z_istore_n (pc := 6) hR (lv' := [(3, 0, v2), (0, 2, q), (1, 0, a1), (2, 0, a2)]) dX7_marry_6 rfl (by decide) rfl ?_
  refine z_aload_n (pc := 7) hR 1 dX7_marry_7 rfl rfl ?_
  refine z_getr (pc := 8) hR (c0 := 4) (r := (q + 4)) jf_RX7_21 hq (by decide) rfl rfl dX7_marry_8 ?_
  refine z_iload_n (pc := 11) hR 3 dX7_marry_11 rfl rfl ?_
  refine z_chk (fun hc3 => ?_)
  refine z_iald (pc := 12) hR (n := 7) (kf_7_has hq) hc3.1 hc3.2 dX7_marry_12 ?_
  refine z_let1 (fun v4 => ?_)
  refine z_istore (pc := 13) hR (lv' := [(4, 0, v4), (3, 0, v2), (0, 2, q), (1, 0, a1), (2, 0, a2)]) dX7_marry_13 (by decide) rfl ?_
  refine z_aload_n (pc := 15) hR 2 dX7_marry_15 rfl rfl ?_
  refine z_getr (pc := 16) hR (c0 := 2) (r := (q + 2)) jf_RX7_15 hq (by decide) rfl rfl dX7_marry_16 ?_
  refine z_iload_n (pc := 19) hR 1 dX7_marry_19 rfl rfl ?_
  refine z_chk (fun hc5 => ?_)
  refine z_iald (pc := 20) hR (n := 7) (kf_7_taste hq) hc5.1 hc5.2 dX7_marry_20 ?_
  refine z_let1 (fun v6 => ?_)
  refine z_istore (pc := 21) hR (lv' := [(5, 0, v6), (4, 0, v4), (3, 0, v2), (0, 2, q), (1, 0, a1), (2, 0, a2)]) dX7_marry_21 (by decide) rfl ?_
  refine z_aload_n (pc := 23) hR 3 dX7_marry_23 rfl rfl ?_
  refine z_getr (pc := 24) hR (c0 := 2) (r := (q + 2)) jf_RX7_15 hq (by decide) rfl rfl dX7_marry_24 ?_
  refine z_iload (pc := 27) hR 1 dX7_marry_27 rfl ?_
  refine z_chk (fun hc7 => ?_)
  refine z_iald (pc := 29) hR (n := 7) (kf_7_taste hq) hc7.1 hc7.2 dX7_marry_29 ?_
  refine z_let1 (fun v8 => ?_)
  refine z_istore (pc := 30) hR (lv' := [(6, 0, v8), (5, 0, v6), (4, 0, v4), (3, 0, v2), (0, 2, q), (1, 0, a1), (2, 0, a2)]) dX7_marry_30 (by decide) rfl ?_
  refine z_aload_n (pc := 32) hR 4 dX7_marry_32 rfl rfl ?_
  refine z_getr (pc := 33) hR (c0 := 2) (r := (q + 2)) jf_RX7_15 hq (by decide) rfl rfl dX7_marry_33 ?_
  refine z_iload_n (pc := 36) hR 3 dX7_marry_36 rfl rfl ?_
  refine z_iload (pc := 37) hR 1 dX7_marry_37 rfl ?_
  refine z_iload (pc := 39) hR 0 dX7_marry_39 rfl ?_
  refine z_iload (pc := 41) hR 1 dX7_marry_41 rfl ?_
  refine z_isub (pc := 43) hR dX7_marry_43 ?_
  refine z_iconst (pc := 44) hR dX7_marry_44 rfl ?_
  refine z_idiv (pc := 45) hR dX7_marry_45 (by decide) ?_
  refine z_iadd (pc := 46) hR dX7_marry_46 ?_
  refine z_chk (fun hc9 => ?_)
  refine z_iast (pc := 47) hR (n := 7) (kf_7_taste hq) hc9.1 hc9.2 dX7_marry_47 (fun M10 => ?_)
  refine z_aload_n (pc := 48) hR 4 dX7_marry_48 rfl rfl ?_
  refine z_getr (pc := 49) hR (c0 := 2) (r := (q + 2)) jf_RX7_15 hq (by decide) rfl rfl dX7_marry_49 ?_
  refine z_iload (pc := 52) hR 2 dX7_marry_52 rfl ?_
  refine z_iload (pc := 54) hR 0 dX7_marry_54 rfl ?_
  refine z_iload (pc := 56) hR 1 dX7_marry_56 rfl ?_
  refine z_iload (pc := 58) hR 0 dX7_marry_58 rfl ?_
  refine z_isub (pc := 60) hR dX7_marry_60 ?_
  refine z_iconst (pc := 61) hR dX7_marry_61 rfl ?_
  refine z_idiv (pc := 62) hR dX7_marry_62 (by decide) ?_
  refine z_iadd (pc := 63) hR dX7_marry_63 ?_
  refine z_chk (fun hc11 => ?_)
  refine z_iast (pc := 64) hR (n := 7) (kf_7_taste hq) hc11.1 hc11.2 dX7_marry_64 (fun M12 => ?_)
  refine z_aload_n (pc := 65) hR 4 dX7_marry_65 rfl rfl ?_
  refine z_getr (pc := 66) hR (c0 := 4) (r := (q + 4)) jf_RX7_21 hq (by decide) rfl rfl dX7_marry_66 ?_
  refine z_iload_n (pc := 69) hR 5 dX7_marry_69 rfl rfl ?_
  refine z_iload (pc := 70) hR 2 dX7_marry_70 rfl ?_
  refine z_chk (fun hc13 => ?_)
  refine z_iast (pc := 72) hR (n := 7) (kf_7_has hq) hc13.1 hc13.2 dX7_marry_72 (fun M14 => ?_)
  refine z_aload_n (pc := 73) hR 4 dX7_marry_73 rfl rfl ?_
  refine z_getr (pc := 74) hR (c0 := 4) (r := (q + 4)) jf_RX7_21 hq (by decide) rfl rfl dX7_marry_74 ?_
  refine z_iload_n (pc := 77) hR 6 dX7_marry_77 rfl rfl ?_
  refine z_iload_n (pc := 78) hR 3 dX7_marry_78 rfl rfl ?_
  refine z_chk (fun hc15 => ?_)
  refine z_iast (pc := 79) hR (n := 7) (kf_7_has hq) hc15.1 hc15.2 dX7_marry_79 (fun M16 => ?_)
  refine z_aload_n (pc := 80) hR 4 dX7_marry_80 rfl rfl ?_
  refine z_getr (pc := 81) hR (c0 := 5) (r := (q + 5)) jf_RX7_24 hq (by decide) rfl rfl dX7_marry_81 ?_
  refine z_iload_n (pc := 84) hR 5 dX7_marry_84 rfl rfl ?_
  refine z_dup2 (pc := 85) hR dX7_marry_85 (by decide) (by decide) ?_
  refine z_chk (fun hc17 => ?_)
  refine z_iald (pc := 86) hR (n := 7) (kf_7_heirs hq) hc17.1 hc17.2 dX7_marry_86 ?_
  refine z_iconst (pc := 87) hR dX7_marry_87 rfl ?_
  refine z_isub (pc := 88) hR dX7_marry_88 ?_
  refine z_chk (fun hc18 => ?_)
  refine z_iast (pc := 89) hR (n := 7) (kf_7_heirs hq) hc18.1 hc18.2 dX7_marry_89 (fun M19 => ?_)
  refine z_aload_n (pc := 90) hR 4 dX7_marry_90 rfl rfl ?_
  refine z_getr (pc := 91) hR (c0 := 5) (r := (q + 5)) jf_RX7_24 hq (by decide) rfl rfl dX7_marry_91 ?_
  refine z_iload_n (pc := 94) hR 6 dX7_marry_94 rfl rfl ?_
  refine z_dup2 (pc := 95) hR dX7_marry_95 (by decide) (by decide) ?_
  refine z_chk (fun hc20 => ?_)
  refine z_iald (pc := 96) hR (n := 7) (kf_7_heirs hq) hc20.1 hc20.2 dX7_marry_96 ?_
  refine z_iconst (pc := 97) hR dX7_marry_97 rfl ?_
  refine z_isub (pc := 98) hR dX7_marry_98 ?_
  refine z_chk (fun hc21 => ?_)
  refine z_iast (pc := 99) hR (n := 7) (kf_7_heirs hq) hc21.1 hc21.2 dX7_marry_99 (fun M22 => ?_)
  exact z_return (x := 0) (pc := 100) hR rfl rfl dX7_marry_100 rfl
