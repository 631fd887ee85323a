/-! the constructors as functions (by program) -/
def jab (T : List Nat) (q : Int) (ty n : Nat) : Bool := decide (0 ≤ q) && (T[q.toNat]? == some (1000000 * (ty + 1) + n)) && decide (n < 1000000)
theorem jab_ok {T : List Nat} {q : Int} {ty n : Nat} (h : jab T q ty n = true) : ja T q ty n := by
  simp only [jab, Bool.and_eq_true, decide_eq_true_eq, beq_iff_eq] at h; exact ⟨h.1.1, h.1.2, h.2⟩
theorem jar_0 : Cond.arrayClass .int ∈ lw_g := lw_in (List.mem_append_right _ (List.mem_append_left _ (List.mem_of_getElem? (i := 59) (by decide +kernel)))) rfl
theorem jar_1 : Cond.arrayClass .byte ∈ lw_g := lw_in (List.mem_append_right _ (List.mem_append_left _ (List.mem_of_getElem? (i := 58) (by decide +kernel)))) rfl
theorem jar_2 : Cond.arrayClass .short ∈ lw_g := lw_in (List.mem_append_right _ (List.mem_append_right _ (List.mem_append_left _ (List.mem_of_getElem? (i := 92) (by decide +kernel))))) rfl
theorem jar_3 : Cond.arrayClass .boolean ∈ lw_g := lw_in (List.mem_append_right _ (List.mem_append_right _ (List.mem_append_right _ (List.mem_append_right _ (List.mem_append_right _ (List.mem_append_right _ (List.mem_append_left _ (List.mem_of_getElem? (i := 74) (by decide +kernel))))))))) rfl
theorem jar_4 : Cond.arrayClass .long ∈ lw_g := lw_in (List.mem_append_right _ (List.mem_append_right _ (List.mem_append_left _ (List.mem_of_getElem? (i := 23) (by decide +kernel))))) rfl
theorem ji_RX0 : Cond.instantiable RX0 3 ∈ lw_g := lw_in (List.mem_append_right _ (List.mem_append_left _ (List.mem_of_getElem? (i := 225) (by decide +kernel)))) rfl
theorem ji_RX1 : Cond.instantiable RX1 8 ∈ lw_g := lw_in (List.mem_append_right _ (List.mem_append_right _ (List.mem_append_left _ (List.mem_of_getElem? (i := 25) (by decide +kernel))))) rfl
theorem ji_RX10 : Cond.instantiable RX10 3 ∈ lw_g := lw_in (List.mem_append_right _ (List.mem_append_right _ (List.mem_append_left _ (List.mem_of_getElem? (i := 6) (by decide +kernel))))) rfl
theorem ji_RX2 : Cond.instantiable RX2 8 ∈ lw_g := lw_in (List.mem_append_right _ (List.mem_append_right _ (List.mem_append_left _ (List.mem_of_getElem? (i := 62) (by decide +kernel))))) rfl
theorem ji_RX3 : Cond.instantiable RX3 4 ∈ lw_g := lw_in (List.mem_append_right _ (List.mem_append_left _ (List.mem_of_getElem? (i := 176) (by decide +kernel)))) rfl
theorem ji_RX4 : Cond.instantiable RX4 7 ∈ lw_g := lw_in (List.mem_append_right _ (List.mem_append_left _ (List.mem_of_getElem? (i := 61) (by decide +kernel)))) rfl
theorem ji_RX5 : Cond.instantiable RX5 7 ∈ lw_g := lw_in (List.mem_append_right _ (List.mem_append_right _ (List.mem_append_left _ (List.mem_of_getElem? (i := 93) (by decide +kernel))))) rfl
theorem ji_RX6 : Cond.instantiable RX6 3 ∈ lw_g := lw_in (List.mem_append_right _ (List.mem_append_left _ (List.mem_of_getElem? (i := 101) (by decide +kernel)))) rfl
theorem ji_RX7 : Cond.instantiable RX7 7 ∈ lw_g := lw_in (List.mem_append_right _ (List.mem_append_left _ (List.mem_of_getElem? (i := 127) (by decide +kernel)))) rfl
theorem ji_RX8 : Cond.instantiable RX8 5 ∈ lw_g := lw_in (List.mem_append_right _ (List.mem_append_left _ (List.mem_of_getElem? (i := 31) (by decide +kernel)))) rfl
theorem ji_RX9 : Cond.instantiable RX9 6 ∈ lw_g := lw_in (List.mem_append_right _ (List.mem_append_left _ (List.mem_of_getElem? (i := 119) (by decide +kernel)))) rfl
theorem jk_RX0_9 : Cond.classLink RX0 9 RX7 ∈ lw_g := lw_in (List.mem_append_right _ (List.mem_append_left _ (List.mem_of_getElem? (i := 230) (by decide +kernel)))) rfl
theorem jk_RX11_13 : Cond.classLink RX11 13 RX8 ∈ lw_g := lw_in (List.mem_append_right _ (List.mem_append_left _ (List.mem_of_getElem? (i := 30) (by decide +kernel)))) rfl
theorem jk_RX11_20 : Cond.classLink RX11 20 RX4 ∈ lw_g := lw_in (List.mem_append_right _ (List.mem_append_left _ (List.mem_of_getElem? (i := 60) (by decide +kernel)))) rfl
theorem jk_RX11_27 : Cond.classLink RX11 27 RX6 ∈ lw_g := lw_in (List.mem_append_right _ (List.mem_append_left _ (List.mem_of_getElem? (i := 100) (by decide +kernel)))) rfl
theorem jk_RX11_34 : Cond.classLink RX11 34 RX5 ∈ lw_g := lw_in (List.mem_append_right _ (List.mem_append_left _ (List.mem_of_getElem? (i := 116) (by decide +kernel)))) rfl
theorem jk_RX11_40 : Cond.classLink RX11 40 RX9 ∈ lw_g := lw_in (List.mem_append_right _ (List.mem_append_left _ (List.mem_of_getElem? (i := 118) (by decide +kernel)))) rfl
theorem jk_RX11_47 : Cond.classLink RX11 47 RX0 ∈ lw_g := lw_in (List.mem_append_right _ (List.mem_append_left _ (List.mem_of_getElem? (i := 224) (by decide +kernel)))) rfl
theorem jk_RX11_58 : Cond.classLink RX11 58 RX10 ∈ lw_g := lw_in (List.mem_append_right _ (List.mem_append_right _ (List.mem_append_left _ (List.mem_of_getElem? (i := 5) (by decide +kernel))))) rfl
theorem jk_RX11_65 : Cond.classLink RX11 65 RX1 ∈ lw_g := lw_in (List.mem_append_right _ (List.mem_append_right _ (List.mem_append_left _ (List.mem_of_getElem? (i := 24) (by decide +kernel))))) rfl
theorem jk_RX11_72 : Cond.classLink RX11 72 RX2 ∈ lw_g := lw_in (List.mem_append_right _ (List.mem_append_right _ (List.mem_append_left _ (List.mem_of_getElem? (i := 61) (by decide +kernel))))) rfl
theorem jk_RX1_11 : Cond.classLink RX1 11 RX10 ∈ lw_g := lw_in (List.mem_append_right _ (List.mem_append_right _ (List.mem_append_left _ (List.mem_of_getElem? (i := 30) (by decide +kernel))))) rfl
theorem jk_RX1_18 : Cond.classLink RX1 18 RX7 ∈ lw_g := lw_in (List.mem_append_right _ (List.mem_append_right _ (List.mem_append_left _ (List.mem_of_getElem? (i := 32) (by decide +kernel))))) rfl
theorem jk_RX9_18 : Cond.classLink RX9 18 RX7 ∈ lw_g := lw_in (List.mem_append_right _ (List.mem_append_left _ (List.mem_of_getElem? (i := 126) (by decide +kernel)))) rfl
theorem jk_RX9_25 : Cond.classLink RX9 25 RX3 ∈ lw_g := lw_in (List.mem_append_right _ (List.mem_append_left _ (List.mem_of_getElem? (i := 175) (by decide +kernel)))) rfl
theorem jk_RX9_9 : Cond.classLink RX9 9 RX4 ∈ lw_g := lw_in (List.mem_append_right _ (List.mem_append_left _ (List.mem_of_getElem? (i := 124) (by decide +kernel)))) rfl
theorem jl_RX0_3 : Cond.methodLink RX0 3 Lib.objectInit ∈ lw_g := lw_in (List.mem_append_right _ (List.mem_append_left _ (List.mem_of_getElem? (i := 229) (by decide +kernel)))) rfl
theorem jl_RX10_3 : Cond.methodLink RX10 3 Lib.objectInit ∈ lw_g := lw_in (List.mem_append_right _ (List.mem_append_right _ (List.mem_append_left _ (List.mem_of_getElem? (i := 10) (by decide +kernel))))) rfl
theorem jl_RX11_1 : Cond.methodLink RX11 1 Lib.objectInit ∈ lw_g := lw_in (List.mem_append_right _ (List.mem_append_left _ (List.mem_of_getElem? (i := 27) (by decide +kernel)))) rfl
theorem jl_RX11_49 : Cond.methodLink RX11 49 yX0_init ∈ lw_g := lw_in (List.mem_append_right _ (List.mem_append_left _ (List.mem_of_getElem? (i := 226) (by decide +kernel)))) rfl
theorem jl_RX12_1 : Cond.methodLink RX12 1 Lib.objectInit ∈ lw_g := lw_in (List.mem_append_right _ (List.mem_append_right _ (List.mem_append_right _ (List.mem_append_right _ (List.mem_append_right _ (List.mem_append_left _ (List.mem_of_getElem? (i := 186) (by decide +kernel)))))))) rfl
theorem jl_RX1_5 : Cond.methodLink RX1 5 Lib.objectInit ∈ lw_g := lw_in (List.mem_append_right _ (List.mem_append_right _ (List.mem_append_left _ (List.mem_of_getElem? (i := 29) (by decide +kernel))))) rfl
theorem jl_RX2_3 : Cond.methodLink RX2 3 Lib.objectInit ∈ lw_g := lw_in (List.mem_append_right _ (List.mem_append_right _ (List.mem_append_left _ (List.mem_of_getElem? (i := 66) (by decide +kernel))))) rfl
theorem jl_RX3_3 : Cond.methodLink RX3 3 Lib.objectInit ∈ lw_g := lw_in (List.mem_append_right _ (List.mem_append_left _ (List.mem_of_getElem? (i := 180) (by decide +kernel)))) rfl
theorem jl_RX4_3 : Cond.methodLink RX4 3 Lib.objectInit ∈ lw_g := lw_in (List.mem_append_right _ (List.mem_append_left _ (List.mem_of_getElem? (i := 65) (by decide +kernel)))) rfl
theorem jl_RX5_3 : Cond.methodLink RX5 3 Lib.objectInit ∈ lw_g := lw_in (List.mem_append_right _ (List.mem_append_right _ (List.mem_append_left _ (List.mem_of_getElem? (i := 97) (by decide +kernel))))) rfl
theorem jl_RX6_3 : Cond.methodLink RX6 3 Lib.objectInit ∈ lw_g := lw_in (List.mem_append_right _ (List.mem_append_left _ (List.mem_of_getElem? (i := 105) (by decide +kernel)))) rfl
theorem jl_RX7_3 : Cond.methodLink RX7 3 Lib.objectInit ∈ lw_g := lw_in (List.mem_append_right _ (List.mem_append_left _ (List.mem_of_getElem? (i := 131) (by decide +kernel)))) rfl
theorem jl_RX8_3 : Cond.methodLink RX8 3 Lib.objectInit ∈ lw_g := lw_in (List.mem_append_right _ (List.mem_append_left _ (List.mem_of_getElem? (i := 35) (by decide +kernel)))) rfl
theorem jl_RX9_3 : Cond.methodLink RX9 3 Lib.objectInit ∈ lw_g := lw_in (List.mem_append_right _ (List.mem_append_left _ (List.mem_of_getElem? (i := 123) (by decide +kernel)))) rfl
theorem jpf_RX0_11 : jPF 0 0 RX0 11 (.array (.object "WellSwap$State")) := ⟨RX0, TX0, 3, tyX0, rfl, jin_0, by decide, lw_in (List.mem_append_right _ (List.mem_append_left _ (List.mem_of_getElem? (i := 233) (by decide +kernel)))) rfl, tyX0_ok, nmX0, rfl, by decide +kernel, rfl⟩
theorem jpf_RX10_15 : jPF 10 2 RX10 15 (.array .long) := ⟨RX10, TX10, 3, tyX10, rfl, jin_10, by decide, lw_in (List.mem_append_right _ (List.mem_append_right _ (List.mem_append_left _ (List.mem_of_getElem? (i := 15) (by decide +kernel))))) rfl, tyX10_ok, nmX10, rfl, by decide +kernel, rfl⟩
theorem jpf_RX10_9 : jPF 10 0 RX10 9 (.array .int) := ⟨RX10, TX10, 3, tyX10, rfl, jin_10, by decide, lw_in (List.mem_append_right _ (List.mem_append_right _ (List.mem_append_left _ (List.mem_of_getElem? (i := 11) (by decide +kernel))))) rfl, tyX10_ok, nmX10, rfl, by decide +kernel, rfl⟩
theorem jpf_RX11_16 : jPF 11 2 RX11 16 (.object "WellSwap$Tokens") := ⟨RX11, TX11, 13, tyX11, rfl, jin_11, by decide, lw_in (List.mem_append_right _ (List.mem_append_right _ (List.mem_append_left _ (List.mem_of_getElem? (i := 122) (by decide +kernel))))) rfl, tyX11_ok, nmX11, rfl, by decide +kernel, rfl⟩
theorem jpf_RX11_23 : jPF 11 3 RX11 23 (.object "WellSwap$Parish") := ⟨RX11, TX11, 13, tyX11, rfl, jin_11, by decide, lw_in (List.mem_append_right _ (List.mem_append_right _ (List.mem_append_left _ (List.mem_of_getElem? (i := 123) (by decide +kernel))))) rfl, tyX11_ok, nmX11, rfl, by decide +kernel, rfl⟩
theorem jpf_RX11_30 : jPF 11 4 RX11 30 (.object "WellSwap$RuleReader") := ⟨RX11, TX11, 13, tyX11, rfl, jin_11, by decide, lw_in (List.mem_append_right _ (List.mem_append_right _ (List.mem_append_left _ (List.mem_of_getElem? (i := 124) (by decide +kernel))))) rfl, tyX11_ok, nmX11, rfl, by decide +kernel, rfl⟩
theorem jpf_RX11_36 : jPF 11 5 RX11 36 (.array (.object "WellSwap$Rule")) := ⟨RX11, TX11, 13, tyX11, rfl, jin_11, by decide, lw_in (List.mem_append_right _ (List.mem_append_right _ (List.mem_append_left _ (List.mem_of_getElem? (i := 125) (by decide +kernel))))) rfl, tyX11_ok, nmX11, rfl, by decide +kernel, rfl⟩
theorem jpf_RX11_43 : jPF 11 7 RX11 43 (.object "WellSwap$World") := ⟨RX11, TX11, 13, tyX11, rfl, jin_11, by decide, lw_in (List.mem_append_right _ (List.mem_append_right _ (List.mem_append_left _ (List.mem_of_getElem? (i := 127) (by decide +kernel))))) rfl, tyX11_ok, nmX11, rfl, by decide +kernel, rfl⟩
theorem jpf_RX11_50 : jPF 11 8 RX11 50 (.object "WellSwap$Acts") := ⟨RX11, TX11, 13, tyX11, rfl, jin_11, by decide, lw_in (List.mem_append_right _ (List.mem_append_right _ (List.mem_append_left _ (List.mem_of_getElem? (i := 128) (by decide +kernel))))) rfl, tyX11_ok, nmX11, rfl, by decide +kernel, rfl⟩
theorem jpf_RX11_54 : jPF 11 9 RX11 54 (.array (.object "WellSwap$World")) := ⟨RX11, TX11, 13, tyX11, rfl, jin_11, by decide, lw_in (List.mem_append_right _ (List.mem_append_right _ (List.mem_append_left _ (List.mem_of_getElem? (i := 129) (by decide +kernel))))) rfl, tyX11_ok, nmX11, rfl, by decide +kernel, rfl⟩
theorem jpf_RX11_61 : jPF 11 10 RX11 61 (.object "WellSwap$Years") := ⟨RX11, TX11, 13, tyX11, rfl, jin_11, by decide, lw_in (List.mem_append_right _ (List.mem_append_right _ (List.mem_append_left _ (List.mem_of_getElem? (i := 130) (by decide +kernel))))) rfl, tyX11_ok, nmX11, rfl, by decide +kernel, rfl⟩
theorem jpf_RX11_68 : jPF 11 11 RX11 68 (.object "WellSwap$Foresight") := ⟨RX11, TX11, 13, tyX11, rfl, jin_11, by decide, lw_in (List.mem_append_right _ (List.mem_append_right _ (List.mem_append_left _ (List.mem_of_getElem? (i := 131) (by decide +kernel))))) rfl, tyX11_ok, nmX11, rfl, by decide +kernel, rfl⟩
theorem jpf_RX11_75 : jPF 11 12 RX11 75 (.object "WellSwap$LieTable") := ⟨RX11, TX11, 13, tyX11, rfl, jin_11, by decide, lw_in (List.mem_append_right _ (List.mem_append_right _ (List.mem_append_left _ (List.mem_of_getElem? (i := 132) (by decide +kernel))))) rfl, tyX11_ok, nmX11, rfl, by decide +kernel, rfl⟩
theorem jpf_RX11_9 : jPF 11 0 RX11 9 (.array .byte) := ⟨RX11, TX11, 13, tyX11, rfl, jin_11, by decide, lw_in (List.mem_append_right _ (List.mem_append_right _ (List.mem_append_left _ (List.mem_of_getElem? (i := 120) (by decide +kernel))))) rfl, tyX11_ok, nmX11, rfl, by decide +kernel, rfl⟩
theorem jpf_RX12_13 : jPF 12 3 RX12 13 (.array .int) := ⟨RX12, TX12, 42, tyX12, rfl, jin_12, by decide, lw_in (List.mem_append_right _ (List.mem_append_right _ (List.mem_append_right _ (List.mem_append_right _ (List.mem_append_right _ (List.mem_append_left _ (List.mem_of_getElem? (i := 190) (by decide +kernel)))))))) rfl, tyX12_ok, nmX12, rfl, by decide +kernel, rfl⟩
theorem jpf_RX12_17 : jPF 12 4 RX12 17 (.array .int) := ⟨RX12, TX12, 42, tyX12, rfl, jin_12, by decide, lw_in (List.mem_append_right _ (List.mem_append_right _ (List.mem_append_right _ (List.mem_append_right _ (List.mem_append_right _ (List.mem_append_left _ (List.mem_of_getElem? (i := 191) (by decide +kernel)))))))) rfl, tyX12_ok, nmX12, rfl, by decide +kernel, rfl⟩
theorem jpf_RX12_20 : jPF 12 5 RX12 20 (.array .int) := ⟨RX12, TX12, 42, tyX12, rfl, jin_12, by decide, lw_in (List.mem_append_right _ (List.mem_append_right _ (List.mem_append_right _ (List.mem_append_right _ (List.mem_append_right _ (List.mem_append_left _ (List.mem_of_getElem? (i := 192) (by decide +kernel)))))))) rfl, tyX12_ok, nmX12, rfl, by decide +kernel, rfl⟩
theorem jpf_RX12_23 : jPF 12 6 RX12 23 (.array .int) := ⟨RX12, TX12, 42, tyX12, rfl, jin_12, by decide, lw_in (List.mem_append_right _ (List.mem_append_right _ (List.mem_append_right _ (List.mem_append_right _ (List.mem_append_right _ (List.mem_append_left _ (List.mem_of_getElem? (i := 193) (by decide +kernel)))))))) rfl, tyX12_ok, nmX12, rfl, by decide +kernel, rfl⟩
theorem jpf_RX12_26 : jPF 12 7 RX12 26 (.array .int) := ⟨RX12, TX12, 42, tyX12, rfl, jin_12, by decide, lw_in (List.mem_append_right _ (List.mem_append_right _ (List.mem_append_right _ (List.mem_append_right _ (List.mem_append_right _ (List.mem_append_left _ (List.mem_of_getElem? (i := 194) (by decide +kernel)))))))) rfl, tyX12_ok, nmX12, rfl, by decide +kernel, rfl⟩
theorem jpf_RX12_29 : jPF 12 15 RX12 29 (.array .int) := ⟨RX12, TX12, 42, tyX12, rfl, jin_12, by decide, lw_in (List.mem_append_right _ (List.mem_append_right _ (List.mem_append_right _ (List.mem_append_right _ (List.mem_append_right _ (List.mem_append_left _ (List.mem_of_getElem? (i := 202) (by decide +kernel)))))))) rfl, tyX12_ok, nmX12, rfl, by decide +kernel, rfl⟩
theorem jpf_RX12_32 : jPF 12 17 RX12 32 (.array .long) := ⟨RX12, TX12, 42, tyX12, rfl, jin_12, by decide, lw_in (List.mem_append_right _ (List.mem_append_right _ (List.mem_append_right _ (List.mem_append_right _ (List.mem_append_right _ (List.mem_append_left _ (List.mem_of_getElem? (i := 204) (by decide +kernel)))))))) rfl, tyX12_ok, nmX12, rfl, by decide +kernel, rfl⟩
theorem jpf_RX12_36 : jPF 12 19 RX12 36 (.array .long) := ⟨RX12, TX12, 42, tyX12, rfl, jin_12, by decide, lw_in (List.mem_append_right _ (List.mem_append_right _ (List.mem_append_right _ (List.mem_append_right _ (List.mem_append_right _ (List.mem_append_left _ (List.mem_of_getElem? (i := 206) (by decide +kernel)))))))) rfl, tyX12_ok, nmX12, rfl, by decide +kernel, rfl⟩
theorem jpf_RX12_39 : jPF 12 20 RX12 39 (.array .int) := ⟨RX12, TX12, 42, tyX12, rfl, jin_12, by decide, lw_in (List.mem_append_right _ (List.mem_append_right _ (List.mem_append_right _ (List.mem_append_right _ (List.mem_append_right _ (List.mem_append_left _ (List.mem_of_getElem? (i := 207) (by decide +kernel)))))))) rfl, tyX12_ok, nmX12, rfl, by decide +kernel, rfl⟩
theorem jpf_RX12_46 : jPF 12 23 RX12 46 (.array .int) := ⟨RX12, TX12, 42, tyX12, rfl, jin_12, by decide, lw_in (List.mem_append_right _ (List.mem_append_right _ (List.mem_append_right _ (List.mem_append_right _ (List.mem_append_right _ (List.mem_append_left _ (List.mem_of_getElem? (i := 210) (by decide +kernel)))))))) rfl, tyX12_ok, nmX12, rfl, by decide +kernel, rfl⟩
theorem jpf_RX12_49 : jPF 12 25 RX12 49 (.array .int) := ⟨RX12, TX12, 42, tyX12, rfl, jin_12, by decide, lw_in (List.mem_append_right _ (List.mem_append_right _ (List.mem_append_right _ (List.mem_append_right _ (List.mem_append_right _ (List.mem_append_left _ (List.mem_of_getElem? (i := 212) (by decide +kernel)))))))) rfl, tyX12_ok, nmX12, rfl, by decide +kernel, rfl⟩
theorem jpf_RX12_52 : jPF 12 27 RX12 52 (.array .int) := ⟨RX12, TX12, 42, tyX12, rfl, jin_12, by decide, lw_in (List.mem_append_right _ (List.mem_append_right _ (List.mem_append_right _ (List.mem_append_right _ (List.mem_append_right _ (List.mem_append_left _ (List.mem_of_getElem? (i := 214) (by decide +kernel)))))))) rfl, tyX12_ok, nmX12, rfl, by decide +kernel, rfl⟩
theorem jpf_RX12_55 : jPF 12 28 RX12 55 (.array .int) := ⟨RX12, TX12, 42, tyX12, rfl, jin_12, by decide, lw_in (List.mem_append_right _ (List.mem_append_right _ (List.mem_append_right _ (List.mem_append_right _ (List.mem_append_right _ (List.mem_append_left _ (List.mem_of_getElem? (i := 215) (by decide +kernel)))))))) rfl, tyX12_ok, nmX12, rfl, by decide +kernel, rfl⟩
theorem jpf_RX12_58 : jPF 12 29 RX12 58 (.array .int) := ⟨RX12, TX12, 42, tyX12, rfl, jin_12, by decide, lw_in (List.mem_append_right _ (List.mem_append_right _ (List.mem_append_right _ (List.mem_append_right _ (List.mem_append_right _ (List.mem_append_left _ (List.mem_of_getElem? (i := 216) (by decide +kernel)))))))) rfl, tyX12_ok, nmX12, rfl, by decide +kernel, rfl⟩
theorem jpf_RX12_61 : jPF 12 30 RX12 61 (.array .int) := ⟨RX12, TX12, 42, tyX12, rfl, jin_12, by decide, lw_in (List.mem_append_right _ (List.mem_append_right _ (List.mem_append_right _ (List.mem_append_right _ (List.mem_append_right _ (List.mem_append_left _ (List.mem_of_getElem? (i := 217) (by decide +kernel)))))))) rfl, tyX12_ok, nmX12, rfl, by decide +kernel, rfl⟩
theorem jpf_RX12_64 : jPF 12 33 RX12 64 (.array .int) := ⟨RX12, TX12, 42, tyX12, rfl, jin_12, by decide, lw_in (List.mem_append_right _ (List.mem_append_right _ (List.mem_append_right _ (List.mem_append_right _ (List.mem_append_right _ (List.mem_append_left _ (List.mem_of_getElem? (i := 220) (by decide +kernel)))))))) rfl, tyX12_ok, nmX12, rfl, by decide +kernel, rfl⟩
theorem jpf_RX12_67 : jPF 12 34 RX12 67 (.array .int) := ⟨RX12, TX12, 42, tyX12, rfl, jin_12, by decide, lw_in (List.mem_append_right _ (List.mem_append_right _ (List.mem_append_right _ (List.mem_append_right _ (List.mem_append_right _ (List.mem_append_left _ (List.mem_of_getElem? (i := 221) (by decide +kernel)))))))) rfl, tyX12_ok, nmX12, rfl, by decide +kernel, rfl⟩
theorem jpf_RX12_7 : jPF 12 0 RX12 7 (.array .byte) := ⟨RX12, TX12, 42, tyX12, rfl, jin_12, by decide, lw_in (List.mem_append_right _ (List.mem_append_right _ (List.mem_append_right _ (List.mem_append_right _ (List.mem_append_right _ (List.mem_append_left _ (List.mem_of_getElem? (i := 187) (by decide +kernel)))))))) rfl, tyX12_ok, nmX12, rfl, by decide +kernel, rfl⟩
theorem jpf_RX12_70 : jPF 12 35 RX12 70 (.array .boolean) := ⟨RX12, TX12, 42, tyX12, rfl, jin_12, by decide, lw_in (List.mem_append_right _ (List.mem_append_right _ (List.mem_append_right _ (List.mem_append_right _ (List.mem_append_right _ (List.mem_append_left _ (List.mem_of_getElem? (i := 222) (by decide +kernel)))))))) rfl, tyX12_ok, nmX12, rfl, by decide +kernel, rfl⟩
theorem jpf_RX12_74 : jPF 12 36 RX12 74 (.array .int) := ⟨RX12, TX12, 42, tyX12, rfl, jin_12, by decide, lw_in (List.mem_append_right _ (List.mem_append_right _ (List.mem_append_right _ (List.mem_append_right _ (List.mem_append_right _ (List.mem_append_left _ (List.mem_of_getElem? (i := 223) (by decide +kernel)))))))) rfl, tyX12_ok, nmX12, rfl, by decide +kernel, rfl⟩
theorem jpf_RX12_77 : jPF 12 38 RX12 77 (.array .int) := ⟨RX12, TX12, 42, tyX12, rfl, jin_12, by decide, lw_in (List.mem_append_right _ (List.mem_append_right _ (List.mem_append_right _ (List.mem_append_right _ (List.mem_append_right _ (List.mem_append_left _ (List.mem_of_getElem? (i := 225) (by decide +kernel)))))))) rfl, tyX12_ok, nmX12, rfl, by decide +kernel, rfl⟩
theorem jpf_RX12_80 : jPF 12 39 RX12 80 (.array .int) := ⟨RX12, TX12, 42, tyX12, rfl, jin_12, by decide, lw_in (List.mem_append_right _ (List.mem_append_right _ (List.mem_append_right _ (List.mem_append_right _ (List.mem_append_right _ (List.mem_append_left _ (List.mem_of_getElem? (i := 226) (by decide +kernel)))))))) rfl, tyX12_ok, nmX12, rfl, by decide +kernel, rfl⟩
theorem jpf_RX12_83 : jPF 12 40 RX12 83 (.array .int) := ⟨RX12, TX12, 42, tyX12, rfl, jin_12, by decide, lw_in (List.mem_append_right _ (List.mem_append_right _ (List.mem_append_right _ (List.mem_append_right _ (List.mem_append_right _ (List.mem_append_left _ (List.mem_of_getElem? (i := 227) (by decide +kernel)))))))) rfl, tyX12_ok, nmX12, rfl, by decide +kernel, rfl⟩
theorem jpf_RX12_86 : jPF 12 41 RX12 86 (.array .boolean) := ⟨RX12, TX12, 42, tyX12, rfl, jin_12, by decide, lw_in (List.mem_append_right _ (List.mem_append_right _ (List.mem_append_right _ (List.mem_append_right _ (List.mem_append_right _ (List.mem_append_left _ (List.mem_of_getElem? (i := 228) (by decide +kernel)))))))) rfl, tyX12_ok, nmX12, rfl, by decide +kernel, rfl⟩
theorem jpf_RX1_14 : jPF 1 0 RX1 14 (.object "WellSwap$Years") := ⟨RX1, TX1, 8, tyX1, rfl, jin_1, by decide, lw_in (List.mem_append_right _ (List.mem_append_right _ (List.mem_append_left _ (List.mem_of_getElem? (i := 34) (by decide +kernel))))) rfl, tyX1_ok, nmX1, rfl, by decide +kernel, rfl⟩
theorem jpf_RX1_21 : jPF 1 1 RX1 21 (.object "WellSwap$State") := ⟨RX1, TX1, 8, tyX1, rfl, jin_1, by decide, lw_in (List.mem_append_right _ (List.mem_append_right _ (List.mem_append_left _ (List.mem_of_getElem? (i := 35) (by decide +kernel))))) rfl, tyX1_ok, nmX1, rfl, by decide +kernel, rfl⟩
theorem jpf_RX1_25 : jPF 1 2 RX1 25 (.array .int) := ⟨RX1, TX1, 8, tyX1, rfl, jin_1, by decide, lw_in (List.mem_append_right _ (List.mem_append_right _ (List.mem_append_left _ (List.mem_of_getElem? (i := 36) (by decide +kernel))))) rfl, tyX1_ok, nmX1, rfl, by decide +kernel, rfl⟩
theorem jpf_RX1_29 : jPF 1 3 RX1 29 (.array .int) := ⟨RX1, TX1, 8, tyX1, rfl, jin_1, by decide, lw_in (List.mem_append_right _ (List.mem_append_right _ (List.mem_append_left _ (List.mem_of_getElem? (i := 37) (by decide +kernel))))) rfl, tyX1_ok, nmX1, rfl, by decide +kernel, rfl⟩
theorem jpf_RX1_32 : jPF 1 4 RX1 32 (.array .int) := ⟨RX1, TX1, 8, tyX1, rfl, jin_1, by decide, lw_in (List.mem_append_right _ (List.mem_append_right _ (List.mem_append_left _ (List.mem_of_getElem? (i := 38) (by decide +kernel))))) rfl, tyX1_ok, nmX1, rfl, by decide +kernel, rfl⟩
theorem jpf_RX1_35 : jPF 1 5 RX1 35 (.array .int) := ⟨RX1, TX1, 8, tyX1, rfl, jin_1, by decide, lw_in (List.mem_append_right _ (List.mem_append_right _ (List.mem_append_left _ (List.mem_of_getElem? (i := 39) (by decide +kernel))))) rfl, tyX1_ok, nmX1, rfl, by decide +kernel, rfl⟩
theorem jpf_RX2_11 : jPF 2 0 RX2 11 (.array .byte) := ⟨RX2, TX2, 8, tyX2, rfl, jin_2, by decide, lw_in (List.mem_append_right _ (List.mem_append_right _ (List.mem_append_left _ (List.mem_of_getElem? (i := 67) (by decide +kernel))))) rfl, tyX2_ok, nmX2, rfl, by decide +kernel, rfl⟩
theorem jpf_RX2_15 : jPF 2 1 RX2 15 (.array .short) := ⟨RX2, TX2, 8, tyX2, rfl, jin_2, by decide, lw_in (List.mem_append_right _ (List.mem_append_right _ (List.mem_append_left _ (List.mem_of_getElem? (i := 68) (by decide +kernel))))) rfl, tyX2_ok, nmX2, rfl, by decide +kernel, rfl⟩
theorem jpf_RX2_19 : jPF 2 4 RX2 19 (.array .int) := ⟨RX2, TX2, 8, tyX2, rfl, jin_2, by decide, lw_in (List.mem_append_right _ (List.mem_append_right _ (List.mem_append_left _ (List.mem_of_getElem? (i := 71) (by decide +kernel))))) rfl, tyX2_ok, nmX2, rfl, by decide +kernel, rfl⟩
theorem jpf_RX2_23 : jPF 2 5 RX2 23 (.array .int) := ⟨RX2, TX2, 8, tyX2, rfl, jin_2, by decide, lw_in (List.mem_append_right _ (List.mem_append_right _ (List.mem_append_left _ (List.mem_of_getElem? (i := 72) (by decide +kernel))))) rfl, tyX2_ok, nmX2, rfl, by decide +kernel, rfl⟩
theorem jpf_RX2_26 : jPF 2 6 RX2 26 (.array .int) := ⟨RX2, TX2, 8, tyX2, rfl, jin_2, by decide, lw_in (List.mem_append_right _ (List.mem_append_right _ (List.mem_append_left _ (List.mem_of_getElem? (i := 73) (by decide +kernel))))) rfl, tyX2_ok, nmX2, rfl, by decide +kernel, rfl⟩
theorem jpf_RX3_15 : jPF 3 2 RX3 15 (.array .int) := ⟨RX3, TX3, 4, tyX3, rfl, jin_3, by decide, lw_in (List.mem_append_right _ (List.mem_append_left _ (List.mem_of_getElem? (i := 184) (by decide +kernel)))) rfl, tyX3_ok, nmX3, rfl, by decide +kernel, rfl⟩
theorem jpf_RX3_18 : jPF 3 3 RX3 18 (.array .int) := ⟨RX3, TX3, 4, tyX3, rfl, jin_3, by decide, lw_in (List.mem_append_right _ (List.mem_append_left _ (List.mem_of_getElem? (i := 185) (by decide +kernel)))) rfl, tyX3_ok, nmX3, rfl, by decide +kernel, rfl⟩
theorem jpf_RX3_9 : jPF 3 1 RX3 9 (.array .int) := ⟨RX3, TX3, 4, tyX3, rfl, jin_3, by decide, lw_in (List.mem_append_right _ (List.mem_append_left _ (List.mem_of_getElem? (i := 183) (by decide +kernel)))) rfl, tyX3_ok, nmX3, rfl, by decide +kernel, rfl⟩
theorem jpf_RX4_15 : jPF 4 3 RX4 15 (.array .int) := ⟨RX4, TX4, 7, tyX4, rfl, jin_4, by decide, lw_in (List.mem_append_right _ (List.mem_append_left _ (List.mem_of_getElem? (i := 76) (by decide +kernel)))) rfl, tyX4_ok, nmX4, rfl, by decide +kernel, rfl⟩
theorem jpf_RX4_18 : jPF 4 4 RX4 18 (.array .int) := ⟨RX4, TX4, 7, tyX4, rfl, jin_4, by decide, lw_in (List.mem_append_right _ (List.mem_append_left _ (List.mem_of_getElem? (i := 78) (by decide +kernel)))) rfl, tyX4_ok, nmX4, rfl, by decide +kernel, rfl⟩
theorem jpf_RX4_21 : jPF 4 5 RX4 21 (.array .int) := ⟨RX4, TX4, 7, tyX4, rfl, jin_4, by decide, lw_in (List.mem_append_right _ (List.mem_append_left _ (List.mem_of_getElem? (i := 81) (by decide +kernel)))) rfl, tyX4_ok, nmX4, rfl, by decide +kernel, rfl⟩
theorem jpf_RX4_24 : jPF 4 6 RX4 24 (.array .int) := ⟨RX4, TX4, 7, tyX4, rfl, jin_4, by decide, lw_in (List.mem_append_right _ (List.mem_append_left _ (List.mem_of_getElem? (i := 83) (by decide +kernel)))) rfl, tyX4_ok, nmX4, rfl, by decide +kernel, rfl⟩
theorem jpf_RX4_9 : jPF 4 2 RX4 9 (.array .int) := ⟨RX4, TX4, 7, tyX4, rfl, jin_4, by decide, lw_in (List.mem_append_right _ (List.mem_append_left _ (List.mem_of_getElem? (i := 74) (by decide +kernel)))) rfl, tyX4_ok, nmX4, rfl, by decide +kernel, rfl⟩
theorem jpf_RX5_15 : jPF 5 2 RX5 15 (.array .int) := ⟨RX5, TX5, 7, tyX5, rfl, jin_5, by decide, lw_in (List.mem_append_right _ (List.mem_append_right _ (List.mem_append_left _ (List.mem_of_getElem? (i := 100) (by decide +kernel))))) rfl, tyX5_ok, nmX5, rfl, by decide +kernel, rfl⟩
theorem jpf_RX5_18 : jPF 5 3 RX5 18 (.array .int) := ⟨RX5, TX5, 7, tyX5, rfl, jin_5, by decide, lw_in (List.mem_append_right _ (List.mem_append_right _ (List.mem_append_left _ (List.mem_of_getElem? (i := 101) (by decide +kernel))))) rfl, tyX5_ok, nmX5, rfl, by decide +kernel, rfl⟩
theorem jpf_RX5_21 : jPF 5 4 RX5 21 (.array .int) := ⟨RX5, TX5, 7, tyX5, rfl, jin_5, by decide, lw_in (List.mem_append_right _ (List.mem_append_right _ (List.mem_append_left _ (List.mem_of_getElem? (i := 102) (by decide +kernel))))) rfl, tyX5_ok, nmX5, rfl, by decide +kernel, rfl⟩
theorem jpf_RX5_24 : jPF 5 6 RX5 24 (.array .long) := ⟨RX5, TX5, 7, tyX5, rfl, jin_5, by decide, lw_in (List.mem_append_right _ (List.mem_append_right _ (List.mem_append_left _ (List.mem_of_getElem? (i := 104) (by decide +kernel))))) rfl, tyX5_ok, nmX5, rfl, by decide +kernel, rfl⟩
theorem jpf_RX5_9 : jPF 5 0 RX5 9 (.array .int) := ⟨RX5, TX5, 7, tyX5, rfl, jin_5, by decide, lw_in (List.mem_append_right _ (List.mem_append_right _ (List.mem_append_left _ (List.mem_of_getElem? (i := 98) (by decide +kernel))))) rfl, tyX5_ok, nmX5, rfl, by decide +kernel, rfl⟩
theorem jpf_RX7_15 : jPF 7 3 RX7 15 (.array .int) := ⟨RX7, TX7, 7, tyX7, rfl, jin_7, by decide, lw_in (List.mem_append_right _ (List.mem_append_left _ (List.mem_of_getElem? (i := 142) (by decide +kernel)))) rfl, tyX7_ok, nmX7, rfl, by decide +kernel, rfl⟩
theorem jpf_RX7_18 : jPF 7 4 RX7 18 (.array .int) := ⟨RX7, TX7, 7, tyX7, rfl, jin_7, by decide, lw_in (List.mem_append_right _ (List.mem_append_left _ (List.mem_of_getElem? (i := 147) (by decide +kernel)))) rfl, tyX7_ok, nmX7, rfl, by decide +kernel, rfl⟩
theorem jpf_RX7_21 : jPF 7 5 RX7 21 (.array .int) := ⟨RX7, TX7, 7, tyX7, rfl, jin_7, by decide, lw_in (List.mem_append_right _ (List.mem_append_left _ (List.mem_of_getElem? (i := 151) (by decide +kernel)))) rfl, tyX7_ok, nmX7, rfl, by decide +kernel, rfl⟩
theorem jpf_RX7_24 : jPF 7 6 RX7 24 (.array .int) := ⟨RX7, TX7, 7, tyX7, rfl, jin_7, by decide, lw_in (List.mem_append_right _ (List.mem_append_left _ (List.mem_of_getElem? (i := 157) (by decide +kernel)))) rfl, tyX7_ok, nmX7, rfl, by decide +kernel, rfl⟩
theorem jpf_RX7_9 : jPF 7 2 RX7 9 (.array .int) := ⟨RX7, TX7, 7, tyX7, rfl, jin_7, by decide, lw_in (List.mem_append_right _ (List.mem_append_left _ (List.mem_of_getElem? (i := 139) (by decide +kernel)))) rfl, tyX7_ok, nmX7, rfl, by decide +kernel, rfl⟩
theorem jpf_RX8_15 : jPF 8 1 RX8 15 (.array .int) := ⟨RX8, TX8, 5, tyX8, rfl, jin_8, by decide, lw_in (List.mem_append_right _ (List.mem_append_left _ (List.mem_of_getElem? (i := 37) (by decide +kernel)))) rfl, tyX8_ok, nmX8, rfl, by decide +kernel, rfl⟩
theorem jpf_RX8_18 : jPF 8 2 RX8 18 (.array .int) := ⟨RX8, TX8, 5, tyX8, rfl, jin_8, by decide, lw_in (List.mem_append_right _ (List.mem_append_left _ (List.mem_of_getElem? (i := 38) (by decide +kernel)))) rfl, tyX8_ok, nmX8, rfl, by decide +kernel, rfl⟩
theorem jpf_RX8_9 : jPF 8 0 RX8 9 (.array .int) := ⟨RX8, TX8, 5, tyX8, rfl, jin_8, by decide, lw_in (List.mem_append_right _ (List.mem_append_left _ (List.mem_of_getElem? (i := 36) (by decide +kernel)))) rfl, tyX8_ok, nmX8, rfl, by decide +kernel, rfl⟩
theorem jpf_RX9_12 : jPF 9 0 RX9 12 (.object "WellSwap$Parish") := ⟨RX9, TX9, 6, tyX9, rfl, jin_9, by decide, lw_in (List.mem_append_right _ (List.mem_append_left _ (List.mem_of_getElem? (i := 195) (by decide +kernel)))) rfl, tyX9_ok, nmX9, rfl, by decide +kernel, rfl⟩
theorem jpf_RX9_21 : jPF 9 1 RX9 21 (.object "WellSwap$State") := ⟨RX9, TX9, 6, tyX9, rfl, jin_9, by decide, lw_in (List.mem_append_right _ (List.mem_append_left _ (List.mem_of_getElem? (i := 199) (by decide +kernel)))) rfl, tyX9_ok, nmX9, rfl, by decide +kernel, rfl⟩
theorem jpf_RX9_28 : jPF 9 2 RX9 28 (.object "WellSwap$Notes") := ⟨RX9, TX9, 6, tyX9, rfl, jin_9, by decide, lw_in (List.mem_append_right _ (List.mem_append_left _ (List.mem_of_getElem? (i := 203) (by decide +kernel)))) rfl, tyX9_ok, nmX9, rfl, by decide +kernel, rfl⟩
theorem jq_X0_init : jIm yX0_init cX0_init 2 := ⟨lw_in (List.mem_append_right _ (List.mem_append_left _ (List.mem_of_getElem? (i := 227) (by decide +kernel)))) rfl, lw_in (List.mem_append_right _ (List.mem_append_left _ (List.mem_of_getElem? (i := 8) (by decide +kernel)))) rfl, lw_in (List.mem_append_right _ (List.mem_append_left _ (List.mem_of_getElem? (i := 228) (by decide +kernel)))) rfl, rfl, by decide +kernel⟩
theorem jq_X10_init : jIm yX10_init cX10_init 1 := ⟨lw_in (List.mem_append_right _ (List.mem_append_right _ (List.mem_append_left _ (List.mem_of_getElem? (i := 8) (by decide +kernel))))) rfl, lw_in (List.mem_append_right _ (List.mem_append_left _ (List.mem_of_getElem? (i := 9) (by decide +kernel)))) rfl, lw_in (List.mem_append_right _ (List.mem_append_right _ (List.mem_append_left _ (List.mem_of_getElem? (i := 9) (by decide +kernel))))) rfl, rfl, by decide +kernel⟩
theorem jq_X1_init : jIm yX1_init cX1_init 1 := ⟨lw_in (List.mem_append_right _ (List.mem_append_right _ (List.mem_append_left _ (List.mem_of_getElem? (i := 27) (by decide +kernel))))) rfl, lw_in (List.mem_append_right _ (List.mem_append_left _ (List.mem_of_getElem? (i := 10) (by decide +kernel)))) rfl, lw_in (List.mem_append_right _ (List.mem_append_right _ (List.mem_append_left _ (List.mem_of_getElem? (i := 28) (by decide +kernel))))) rfl, rfl, by decide +kernel⟩
theorem jq_X2_init : jIm yX2_init cX2_init 1 := ⟨lw_in (List.mem_append_right _ (List.mem_append_right _ (List.mem_append_left _ (List.mem_of_getElem? (i := 64) (by decide +kernel))))) rfl, lw_in (List.mem_append_right _ (List.mem_append_left _ (List.mem_of_getElem? (i := 11) (by decide +kernel)))) rfl, lw_in (List.mem_append_right _ (List.mem_append_right _ (List.mem_append_left _ (List.mem_of_getElem? (i := 65) (by decide +kernel))))) rfl, rfl, by decide +kernel⟩
theorem jq_X3_init : jIm yX3_init cX3_init 1 := ⟨lw_in (List.mem_append_right _ (List.mem_append_left _ (List.mem_of_getElem? (i := 178) (by decide +kernel)))) rfl, lw_in (List.mem_append_right _ (List.mem_append_left _ (List.mem_of_getElem? (i := 7) (by decide +kernel)))) rfl, lw_in (List.mem_append_right _ (List.mem_append_left _ (List.mem_of_getElem? (i := 179) (by decide +kernel)))) rfl, rfl, by decide +kernel⟩
theorem jq_X4_init : jIm yX4_init cX4_init 1 := ⟨lw_in (List.mem_append_right _ (List.mem_append_left _ (List.mem_of_getElem? (i := 63) (by decide +kernel)))) rfl, lw_in (List.mem_append_right _ (List.mem_append_left _ (List.mem_of_getElem? (i := 3) (by decide +kernel)))) rfl, lw_in (List.mem_append_right _ (List.mem_append_left _ (List.mem_of_getElem? (i := 64) (by decide +kernel)))) rfl, rfl, by decide +kernel⟩
theorem jq_X5_init : jIm yX5_init cX5_init 1 := ⟨lw_in (List.mem_append_right _ (List.mem_append_right _ (List.mem_append_left _ (List.mem_of_getElem? (i := 95) (by decide +kernel))))) rfl, lw_in (List.mem_append_right _ (List.mem_append_left _ (List.mem_of_getElem? (i := 12) (by decide +kernel)))) rfl, lw_in (List.mem_append_right _ (List.mem_append_right _ (List.mem_append_left _ (List.mem_of_getElem? (i := 96) (by decide +kernel))))) rfl, rfl, by decide +kernel⟩
theorem jq_X6_init : jIm yX6_init cX6_init 1 := ⟨lw_in (List.mem_append_right _ (List.mem_append_left _ (List.mem_of_getElem? (i := 103) (by decide +kernel)))) rfl, lw_in (List.mem_append_right _ (List.mem_append_left _ (List.mem_of_getElem? (i := 4) (by decide +kernel)))) rfl, lw_in (List.mem_append_right _ (List.mem_append_left _ (List.mem_of_getElem? (i := 104) (by decide +kernel)))) rfl, rfl, by decide +kernel⟩
theorem jq_X7_init : jIm yX7_init cX7_init 1 := ⟨lw_in (List.mem_append_right _ (List.mem_append_left _ (List.mem_of_getElem? (i := 129) (by decide +kernel)))) rfl, lw_in (List.mem_append_right _ (List.mem_append_left _ (List.mem_of_getElem? (i := 6) (by decide +kernel)))) rfl, lw_in (List.mem_append_right _ (List.mem_append_left _ (List.mem_of_getElem? (i := 130) (by decide +kernel)))) rfl, rfl, by decide +kernel⟩
theorem jq_X8_init : jIm yX8_init cX8_init 1 := ⟨lw_in (List.mem_append_right _ (List.mem_append_left _ (List.mem_of_getElem? (i := 33) (by decide +kernel)))) rfl, lw_in (List.mem_append_right _ (List.mem_append_left _ (List.mem_of_getElem? (i := 2) (by decide +kernel)))) rfl, lw_in (List.mem_append_right _ (List.mem_append_left _ (List.mem_of_getElem? (i := 34) (by decide +kernel)))) rfl, rfl, by decide +kernel⟩
theorem jq_X9_init : jIm yX9_init cX9_init 1 := ⟨lw_in (List.mem_append_right _ (List.mem_append_left _ (List.mem_of_getElem? (i := 121) (by decide +kernel)))) rfl, lw_in (List.mem_append_right _ (List.mem_append_left _ (List.mem_of_getElem? (i := 5) (by decide +kernel)))) rfl, lw_in (List.mem_append_right _ (List.mem_append_left _ (List.mem_of_getElem? (i := 122) (by decide +kernel)))) rfl, rfl, by decide +kernel⟩
theorem jw_obj_c : Cond.code Lib.objectInit ⟨#[0xb1]⟩ 1 none ∈ lw_g := lw_in (List.mem_append_right _ (List.mem_append_left _ (List.mem_of_getElem? (i := 29) (by decide +kernel)))) rfl
theorem jw_obj_i : Cond.instanceMethod Lib.objectInit ∈ lw_g := lw_in (List.mem_append_right _ (List.mem_append_left _ (List.mem_of_getElem? (i := 28) (by decide +kernel)))) rfl
theorem jz_RX0 : Cond.initialized RX0 ∈ lw_g := lw_in (List.mem_append_right _ (List.mem_append_left _ (List.mem_of_getElem? (i := 8) (by decide +kernel)))) rfl
theorem jz_RX1 : Cond.initialized RX1 ∈ lw_g := lw_in (List.mem_append_right _ (List.mem_append_left _ (List.mem_of_getElem? (i := 10) (by decide +kernel)))) rfl
theorem jz_RX10 : Cond.initialized RX10 ∈ lw_g := lw_in (List.mem_append_right _ (List.mem_append_left _ (List.mem_of_getElem? (i := 9) (by decide +kernel)))) rfl
theorem jz_RX2 : Cond.initialized RX2 ∈ lw_g := lw_in (List.mem_append_right _ (List.mem_append_left _ (List.mem_of_getElem? (i := 11) (by decide +kernel)))) rfl
theorem jz_RX3 : Cond.initialized RX3 ∈ lw_g := lw_in (List.mem_append_right _ (List.mem_append_left _ (List.mem_of_getElem? (i := 7) (by decide +kernel)))) rfl
theorem jz_RX4 : Cond.initialized RX4 ∈ lw_g := lw_in (List.mem_append_right _ (List.mem_append_left _ (List.mem_of_getElem? (i := 3) (by decide +kernel)))) rfl
theorem jz_RX5 : Cond.initialized RX5 ∈ lw_g := lw_in (List.mem_append_right _ (List.mem_append_left _ (List.mem_of_getElem? (i := 12) (by decide +kernel)))) rfl
theorem jz_RX6 : Cond.initialized RX6 ∈ lw_g := lw_in (List.mem_append_right _ (List.mem_append_left _ (List.mem_of_getElem? (i := 4) (by decide +kernel)))) rfl
theorem jz_RX7 : Cond.initialized RX7 ∈ lw_g := lw_in (List.mem_append_right _ (List.mem_append_left _ (List.mem_of_getElem? (i := 6) (by decide +kernel)))) rfl
theorem jz_RX8 : Cond.initialized RX8 ∈ lw_g := lw_in (List.mem_append_right _ (List.mem_append_left _ (List.mem_of_getElem? (i := 2) (by decide +kernel)))) rfl
theorem jz_RX9 : Cond.initialized RX9 ∈ lw_g := lw_in (List.mem_append_right _ (List.mem_append_left _ (List.mem_of_getElem? (i := 5) (by decide +kernel)))) rfl
theorem dX7_init_0 : decode cX7_init 0 = .ok (.aload_n 0, 1) := by decide +kernel
theorem dX7_init_1 : decode cX7_init 1 = .ok (.invokespecial 3, 3) := by decide +kernel
theorem dX7_init_4 : decode cX7_init 4 = .ok (.aload_n 0, 1) := by decide +kernel
theorem dX7_init_5 : decode cX7_init 5 = .ok (.bipush 7, 2) := by decide +kernel
theorem dX7_init_7 : decode cX7_init 7 = .ok (.newarray .int, 2) := by decide +kernel
theorem dX7_init_9 : decode cX7_init 9 = .ok (.putfield 9, 3) := by decide +kernel
theorem dX7_init_12 : decode cX7_init 12 = .ok (.aload_n 0, 1) := by decide +kernel
theorem dX7_init_13 : decode cX7_init 13 = .ok (.bipush 7, 2) := by decide +kernel
theorem dX7_init_15 : decode cX7_init 15 = .ok (.newarray .int, 2) := by decide +kernel
theorem dX7_init_17 : decode cX7_init 17 = .ok (.putfield 15, 3) := by decide +kernel
theorem dX7_init_20 : decode cX7_init 20 = .ok (.aload_n 0, 1) := by decide +kernel
theorem dX7_init_21 : decode cX7_init 21 = .ok (.bipush 7, 2) := by decide +kernel
theorem dX7_init_23 : decode cX7_init 23 = .ok (.newarray .int, 2) := by decide +kernel
theorem dX7_init_25 : decode cX7_init 25 = .ok (.putfield 18, 3) := by decide +kernel
theorem dX7_init_28 : decode cX7_init 28 = .ok (.aload_n 0, 1) := by decide +kernel
theorem dX7_init_29 : decode cX7_init 29 = .ok (.bipush 7, 2) := by decide +kernel
theorem dX7_init_31 : decode cX7_init 31 = .ok (.newarray .int, 2) := by decide +kernel
theorem dX7_init_33 : decode cX7_init 33 = .ok (.putfield 21, 3) := by decide +kernel
theorem dX7_init_36 : decode cX7_init 36 = .ok (.aload_n 0, 1) := by decide +kernel
theorem dX7_init_37 : decode cX7_init 37 = .ok (.bipush 7, 2) := by decide +kernel
theorem dX7_init_39 : decode cX7_init 39 = .ok (.newarray .int, 2) := by decide +kernel
theorem dX7_init_41 : decode cX7_init 41 = .ok (.putfield 24, 3) := by decide +kernel
theorem dX7_init_44 : decode cX7_init 44 = .ok (.return_, 1) := by decide +kernel
def St_init (N nE : Nat) (q : Int) (M : jMem) : Option (Int × jMem) := jchk (0 ≤ q) <| jchk (jn M < nE ∧ jTX[jn M]? = some (1000000 * (0 + 1) + 7)) <| jlt (jnewM jTX M) fun M2 => jchk ((jkb jTX q 7 = true ∧ q < M2 (-1) 0) ∧ 0 ≤ (M (-1) 0)) <| jlt (up M2 q 2 ((M (-1) 0))) fun M3 => jchk (jn M3 < nE ∧ jTX[jn M3]? = some (1000000 * (0 + 1) + 7)) <| jlt (jnewM jTX M3) fun M6 => jchk ((jkb jTX q 7 = true ∧ q < M6 (-1) 0) ∧ 0 ≤ (M3 (-1) 0)) <| jlt (up M6 q 3 ((M3 (-1) 0))) fun M7 => jchk (jn M7 < nE ∧ jTX[jn M7]? = some (1000000 * (0 + 1) + 7)) <| jlt (jnewM jTX M7) fun M10 => jchk ((jkb jTX q 7 = true ∧ q < M10 (-1) 0) ∧ 0 ≤ (M7 (-1) 0)) <| jlt (up M10 q 4 ((M7 (-1) 0))) fun M11 => jchk (jn M11 < nE ∧ jTX[jn M11]? = some (1000000 * (0 + 1) + 7)) <| jlt (jnewM jTX M11) fun M14 => jchk ((jkb jTX q 7 = true ∧ q < M14 (-1) 0) ∧ 0 ≤ (M11 (-1) 0)) <| jlt (up M14 q 5 ((M11 (-1) 0))) fun M15 => jchk (jn M15 < nE ∧ jTX[jn M15]? = some (1000000 * (0 + 1) + 7)) <| jlt (jnewM jTX M15) fun M18 => jchk ((jkb jTX q 7 = true ∧ q < M18 (-1) 0) ∧ 0 ≤ (M15 (-1) 0)) <| jlt (up M18 q 6 ((M15 (-1) 0))) fun M19 => jchk (jn M19 = nE) <| some (0, M19)
theorem c_St_init {l : Launch} {g : jG} (N nE : Nat) (q : Int) (M : jMem) : ∀ o, St_init N nE q M = some o → jC1 l g jTX yX7_init cX7_init 1 (jn M) nE 1 q M o := by
  refine jMet1 (own := RX7) (em := id) (by decide +kernel) rfl rfl (by decide) (fun K hR => ?_)
  unfold St_init
  refine z_chk (fun hq0 => ?_)
  refine y_aload_n (pc := 0) hR 0 dX7_init_0 rfl rfl hq0 ?_
  refine y_obj (pc := 1) hR hq0 jl_RX7_3 jw_obj_i jw_obj_c (by decide) (Nat.le_of_ble_eq_true rfl) dX7_init_1 ?_
  refine y_aload_n (pc := 4) hR 0 dX7_init_4 rfl rfl hq0 ?_
  refine y_bipush (pc := 5) hR dX7_init_5 rfl ?_
  refine z_chk (fun hc1 => ?_)
  refine y_newa0 (pc := 7) hR (len := 7) jar_0 rfl (by decide) hc1 dX7_init_7 (fun M2 => ?_)
  refine z_chk (fun hc4 => ?_)
  refine y_putr (pc := 9) hR (cq := 2) (j := 2) jpf_RX7_9 (jkb_ok hc4.1.1) hc4.1.2 (by decide) rfl rfl hc4.2 (fun _ => rfl) (fun _ => rfl) dX7_init_9 (fun M3 => ?_)
  refine y_aload_n (pc := 12) hR 0 dX7_init_12 rfl rfl hq0 ?_
  refine y_bipush (pc := 13) hR dX7_init_13 rfl ?_
  refine z_chk (fun hc5 => ?_)
  refine y_newa0 (pc := 15) hR (len := 7) jar_0 rfl (by decide) hc5 dX7_init_15 (fun M6 => ?_)
  refine z_chk (fun hc8 => ?_)
  refine y_putr (pc := 17) hR (cq := 3) (j := 3) jpf_RX7_15 (jkb_ok hc8.1.1) hc8.1.2 (by decide) rfl rfl hc8.2 (fun _ => rfl) (fun _ => rfl) dX7_init_17 (fun M7 => ?_)
  refine y_aload_n (pc := 20) hR 0 dX7_init_20 rfl rfl hq0 ?_
  refine y_bipush (pc := 21) hR dX7_init_21 rfl ?_
  refine z_chk (fun hc9 => ?_)
  refine y_newa0 (pc := 23) hR (len := 7) jar_0 rfl (by decide) hc9 dX7_init_23 (fun M10 => ?_)
  refine z_chk (fun hc12 => ?_)
  refine y_putr (pc := 25) hR (cq := 4) (j := 4) jpf_RX7_18 (jkb_ok hc12.1.1) hc12.1.2 (by decide) rfl rfl hc12.2 (fun _ => rfl) (fun _ => rfl) dX7_init_25 (fun M11 => ?_)
  refine y_aload_n (pc := 28) hR 0 dX7_init_28 rfl rfl hq0 ?_
  refine y_bipush (pc := 29) hR dX7_init_29 rfl ?_
  refine z_chk (fun hc13 => ?_)
  refine y_newa0 (pc := 31) hR (len := 7) jar_0 rfl (by decide) hc13 dX7_init_31 (fun M14 => ?_)
  refine z_chk (fun hc16 => ?_)
  refine y_putr (pc := 33) hR (cq := 5) (j := 5) jpf_RX7_21 (jkb_ok hc16.1.1) hc16.1.2 (by decide) rfl rfl hc16.2 (fun _ => rfl) (fun _ => rfl) dX7_init_33 (fun M15 => ?_)
  refine y_aload_n (pc := 36) hR 0 dX7_init_36 rfl rfl hq0 ?_
  refine y_bipush (pc := 37) hR dX7_init_37 rfl ?_
  refine z_chk (fun hc17 => ?_)
  refine y_newa0 (pc := 39) hR (len := 7) jar_0 rfl (by decide) hc17 dX7_init_39 (fun M18 => ?_)
  refine z_chk (fun hc20 => ?_)
  refine y_putr (pc := 41) hR (cq := 6) (j := 6) jpf_RX7_24 (jkb_ok hc20.1.1) hc20.1.2 (by decide) rfl rfl hc20.2 (fun _ => rfl) (fun _ => rfl) dX7_init_41 (fun M19 => ?_)
  refine z_chk (fun hc21 => ?_)
  exact y_return (x := 0) (pc := 44) hR dX7_init_44 hc21 rfl
theorem dX4_init_0 : decode cX4_init 0 = .ok (.aload_n 0, 1) := by decide +kernel
theorem dX4_init_1 : decode cX4_init 1 = .ok (.invokespecial 3, 3) := by decide +kernel
theorem dX4_init_4 : decode cX4_init 4 = .ok (.aload_n 0, 1) := by decide +kernel
theorem dX4_init_5 : decode cX4_init 5 = .ok (.bipush 7, 2) := by decide +kernel
theorem dX4_init_7 : decode cX4_init 7 = .ok (.newarray .int, 2) := by decide +kernel
theorem dX4_init_9 : decode cX4_init 9 = .ok (.putfield 9, 3) := by decide +kernel
theorem dX4_init_12 : decode cX4_init 12 = .ok (.aload_n 0, 1) := by decide +kernel
theorem dX4_init_13 : decode cX4_init 13 = .ok (.bipush 7, 2) := by decide +kernel
theorem dX4_init_15 : decode cX4_init 15 = .ok (.newarray .int, 2) := by decide +kernel
theorem dX4_init_17 : decode cX4_init 17 = .ok (.putfield 15, 3) := by decide +kernel
theorem dX4_init_20 : decode cX4_init 20 = .ok (.aload_n 0, 1) := by decide +kernel
theorem dX4_init_21 : decode cX4_init 21 = .ok (.bipush 7, 2) := by decide +kernel
theorem dX4_init_23 : decode cX4_init 23 = .ok (.newarray .int, 2) := by decide +kernel
theorem dX4_init_25 : decode cX4_init 25 = .ok (.putfield 18, 3) := by decide +kernel
theorem dX4_init_28 : decode cX4_init 28 = .ok (.aload_n 0, 1) := by decide +kernel
theorem dX4_init_29 : decode cX4_init 29 = .ok (.bipush 7, 2) := by decide +kernel
theorem dX4_init_31 : decode cX4_init 31 = .ok (.newarray .int, 2) := by decide +kernel
theorem dX4_init_33 : decode cX4_init 33 = .ok (.putfield 21, 3) := by decide +kernel
theorem dX4_init_36 : decode cX4_init 36 = .ok (.aload_n 0, 1) := by decide +kernel
theorem dX4_init_37 : decode cX4_init 37 = .ok (.bipush 7, 2) := by decide +kernel
theorem dX4_init_39 : decode cX4_init 39 = .ok (.newarray .int, 2) := by decide +kernel
theorem dX4_init_41 : decode cX4_init 41 = .ok (.putfield 24, 3) := by decide +kernel
theorem dX4_init_44 : decode cX4_init 44 = .ok (.return_, 1) := by decide +kernel
def Pa_init (N nE : Nat) (q : Int) (M : jMem) : Option (Int × jMem) := jchk (0 ≤ q) <| jchk (jn M < nE ∧ jTX[jn M]? = some (1000000 * (0 + 1) + 7)) <| jlt (jnewM jTX M) fun M2 => jchk ((jkb jTX q 4 = true ∧ q < M2 (-1) 0) ∧ 0 ≤ (M (-1) 0)) <| jlt (up M2 q 2 ((M (-1) 0))) fun M3 => jchk (jn M3 < nE ∧ jTX[jn M3]? = some (1000000 * (0 + 1) + 7)) <| jlt (jnewM jTX M3) fun M6 => jchk ((jkb jTX q 4 = true ∧ q < M6 (-1) 0) ∧ 0 ≤ (M3 (-1) 0)) <| jlt (up M6 q 3 ((M3 (-1) 0))) fun M7 => jchk (jn M7 < nE ∧ jTX[jn M7]? = some (1000000 * (0 + 1) + 7)) <| jlt (jnewM jTX M7) fun M10 => jchk ((jkb jTX q 4 = true ∧ q < M10 (-1) 0) ∧ 0 ≤ (M7 (-1) 0)) <| jlt (up M10 q 4 ((M7 (-1) 0))) fun M11 => jchk (jn M11 < nE ∧ jTX[jn M11]? = some (1000000 * (0 + 1) + 7)) <| jlt (jnewM jTX M11) fun M14 => jchk ((jkb jTX q 4 = true ∧ q < M14 (-1) 0) ∧ 0 ≤ (M11 (-1) 0)) <| jlt (up M14 q 5 ((M11 (-1) 0))) fun M15 => jchk (jn M15 < nE ∧ jTX[jn M15]? = some (1000000 * (0 + 1) + 7)) <| jlt (jnewM jTX M15) fun M18 => jchk ((jkb jTX q 4 = true ∧ q < M18 (-1) 0) ∧ 0 ≤ (M15 (-1) 0)) <| jlt (up M18 q 6 ((M15 (-1) 0))) fun M19 => jchk (jn M19 = nE) <| some (0, M19)
theorem c_Pa_init {l : Launch} {g : jG} (N nE : Nat) (q : Int) (M : jMem) : ∀ o, Pa_init N nE q M = some o → jC1 l g jTX yX4_init cX4_init 1 (jn M) nE 1 q M o := by
  refine jMet1 (own := RX4) (em := id) (by decide +kernel) rfl rfl (by decide) (fun K hR => ?_)
  unfold Pa_init
  refine z_chk (fun hq0 => ?_)
  refine y_aload_n (pc := 0) hR 0 dX4_init_0 rfl rfl hq0 ?_
  refine y_obj (pc := 1) hR hq0 jl_RX4_3 jw_obj_i jw_obj_c (by decide) (Nat.le_of_ble_eq_true rfl) dX4_init_1 ?_
  refine y_aload_n (pc := 4) hR 0 dX4_init_4 rfl rfl hq0 ?_
  refine y_bipush (pc := 5) hR dX4_init_5 rfl ?_
  refine z_chk (fun hc1 => ?_)
  refine y_newa0 (pc := 7) hR (len := 7) jar_0 rfl (by decide) hc1 dX4_init_7 (fun M2 => ?_)
  refine z_chk (fun hc4 => ?_)
  refine y_putr (pc := 9) hR (cq := 2) (j := 2) jpf_RX4_9 (jkb_ok hc4.1.1) hc4.1.2 (by decide) rfl rfl hc4.2 (fun _ => rfl) (fun _ => rfl) dX4_init_9 (fun M3 => ?_)
  refine y_aload_n (pc := 12) hR 0 dX4_init_12 rfl rfl hq0 ?_
  refine y_bipush (pc := 13) hR dX4_init_13 rfl ?_
  refine z_chk (fun hc5 => ?_)
  refine y_newa0 (pc := 15) hR (len := 7) jar_0 rfl (by decide) hc5 dX4_init_15 (fun M6 => ?_)
  refine z_chk (fun hc8 => ?_)
  refine y_putr (pc := 17) hR (cq := 3) (j := 3) jpf_RX4_15 (jkb_ok hc8.1.1) hc8.1.2 (by decide) rfl rfl hc8.2 (fun _ => rfl) (fun _ => rfl) dX4_init_17 (fun M7 => ?_)
  refine y_aload_n (pc := 20) hR 0 dX4_init_20 rfl rfl hq0 ?_
  refine y_bipush (pc := 21) hR dX4_init_21 rfl ?_
  refine z_chk (fun hc9 => ?_)
  refine y_newa0 (pc := 23) hR (len := 7) jar_0 rfl (by decide) hc9 dX4_init_23 (fun M10 => ?_)
  refine z_chk (fun hc12 => ?_)
  refine y_putr (pc := 25) hR (cq := 4) (j := 4) jpf_RX4_18 (jkb_ok hc12.1.1) hc12.1.2 (by decide) rfl rfl hc12.2 (fun _ => rfl) (fun _ => rfl) dX4_init_25 (fun M11 => ?_)
  refine y_aload_n (pc := 28) hR 0 dX4_init_28 rfl rfl hq0 ?_
  refine y_bipush (pc := 29) hR dX4_init_29 rfl ?_
  refine z_chk (fun hc13 => ?_)
  refine y_newa0 (pc := 31) hR (len := 7) jar_0 rfl (by decide) hc13 dX4_init_31 (fun M14 => ?_)
  refine z_chk (fun hc16 => ?_)
  refine y_putr (pc := 33) hR (cq := 5) (j := 5) jpf_RX4_21 (jkb_ok hc16.1.1) hc16.1.2 (by decide) rfl rfl hc16.2 (fun _ => rfl) (fun _ => rfl) dX4_init_33 (fun M15 => ?_)
  refine y_aload_n (pc := 36) hR 0 dX4_init_36 rfl rfl hq0 ?_
  refine y_bipush (pc := 37) hR dX4_init_37 rfl ?_
  refine z_chk (fun hc17 => ?_)
  refine y_newa0 (pc := 39) hR (len := 7) jar_0 rfl (by decide) hc17 dX4_init_39 (fun M18 => ?_)
  refine z_chk (fun hc20 => ?_)
  refine y_putr (pc := 41) hR (cq := 6) (j := 6) jpf_RX4_24 (jkb_ok hc20.1.1) hc20.1.2 (by decide) rfl rfl hc20.2 (fun _ => rfl) (fun _ => rfl) dX4_init_41 (fun M19 => ?_)
  refine z_chk (fun hc21 => ?_)
  exact y_return (x := 0) (pc := 44) hR dX4_init_44 hc21 rfl
theorem dX3_init_0 : decode cX3_init 0 = .ok (.aload_n 0, 1) := by decide +kernel
theorem dX3_init_1 : decode cX3_init 1 = .ok (.invokespecial 3, 3) := by decide +kernel
theorem dX3_init_4 : decode cX3_init 4 = .ok (.aload_n 0, 1) := by decide +kernel
theorem dX3_init_5 : decode cX3_init 5 = .ok (.bipush 10, 2) := by decide +kernel
theorem dX3_init_7 : decode cX3_init 7 = .ok (.newarray .int, 2) := by decide +kernel
theorem dX3_init_9 : decode cX3_init 9 = .ok (.putfield 9, 3) := by decide +kernel
theorem dX3_init_12 : decode cX3_init 12 = .ok (.aload_n 0, 1) := by decide +kernel
theorem dX3_init_13 : decode cX3_init 13 = .ok (.bipush 10, 2) := by decide +kernel
theorem dX3_init_15 : decode cX3_init 15 = .ok (.newarray .int, 2) := by decide +kernel
theorem dX3_init_17 : decode cX3_init 17 = .ok (.putfield 15, 3) := by decide +kernel
theorem dX3_init_20 : decode cX3_init 20 = .ok (.aload_n 0, 1) := by decide +kernel
theorem dX3_init_21 : decode cX3_init 21 = .ok (.bipush 10, 2) := by decide +kernel
theorem dX3_init_23 : decode cX3_init 23 = .ok (.newarray .int, 2) := by decide +kernel
theorem dX3_init_25 : decode cX3_init 25 = .ok (.putfield 18, 3) := by decide +kernel
theorem dX3_init_28 : decode cX3_init 28 = .ok (.return_, 1) := by decide +kernel
def No_init (N nE : Nat) (q : Int) (M : jMem) : Option (Int × jMem) := jchk (0 ≤ q) <| jchk (jn M < nE ∧ jTX[jn M]? = some (1000000 * (0 + 1) + 10)) <| jlt (jnewM jTX M) fun M2 => jchk ((jkb jTX q 3 = true ∧ q < M2 (-1) 0) ∧ 0 ≤ (M (-1) 0)) <| jlt (up M2 q 1 ((M (-1) 0))) fun M3 => jchk (jn M3 < nE ∧ jTX[jn M3]? = some (1000000 * (0 + 1) + 10)) <| jlt (jnewM jTX M3) fun M6 => jchk ((jkb jTX q 3 = true ∧ q < M6 (-1) 0) ∧ 0 ≤ (M3 (-1) 0)) <| jlt (up M6 q 2 ((M3 (-1) 0))) fun M7 => jchk (jn M7 < nE ∧ jTX[jn M7]? = some (1000000 * (0 + 1) + 10)) <| jlt (jnewM jTX M7) fun M10 => jchk ((jkb jTX q 3 = true ∧ q < M10 (-1) 0) ∧ 0 ≤ (M7 (-1) 0)) <| jlt (up M10 q 3 ((M7 (-1) 0))) fun M11 => jchk (jn M11 = nE) <| some (0, M11)
theorem c_No_init {l : Launch} {g : jG} (N nE : Nat) (q : Int) (M : jMem) : ∀ o, No_init N nE q M = some o → jC1 l g jTX yX3_init cX3_init 1 (jn M) nE 1 q M o := by
  refine jMet1 (own := RX3) (em := id) (by decide +kernel) rfl rfl (by decide) (fun K hR => ?_)
  unfold No_init
  refine z_chk (fun hq0 => ?_)
  refine y_aload_n (pc := 0) hR 0 dX3_init_0 rfl rfl hq0 ?_
  refine y_obj (pc := 1) hR hq0 jl_RX3_3 jw_obj_i jw_obj_c (by decide) (Nat.le_of_ble_eq_true rfl) dX3_init_1 ?_
  refine y_aload_n (pc := 4) hR 0 dX3_init_4 rfl rfl hq0 ?_
  refine y_bipush (pc := 5) hR dX3_init_5 rfl ?_
  refine z_chk (fun hc1 => ?_)
  refine y_newa0 (pc := 7) hR (len := 10) jar_0 rfl (by decide) hc1 dX3_init_7 (fun M2 => ?_)
  refine z_chk (fun hc4 => ?_)
  refine y_putr (pc := 9) hR (cq := 2) (j := 1) jpf_RX3_9 (jkb_ok hc4.1.1) hc4.1.2 (by decide) rfl rfl hc4.2 (fun _ => rfl) (fun _ => rfl) dX3_init_9 (fun M3 => ?_)
  refine y_aload_n (pc := 12) hR 0 dX3_init_12 rfl rfl hq0 ?_
  refine y_bipush (pc := 13) hR dX3_init_13 rfl ?_
  refine z_chk (fun hc5 => ?_)
  refine y_newa0 (pc := 15) hR (len := 10) jar_0 rfl (by decide) hc5 dX3_init_15 (fun M6 => ?_)
  refine z_chk (fun hc8 => ?_)
  refine y_putr (pc := 17) hR (cq := 3) (j := 2) jpf_RX3_15 (jkb_ok hc8.1.1) hc8.1.2 (by decide) rfl rfl hc8.2 (fun _ => rfl) (fun _ => rfl) dX3_init_17 (fun M7 => ?_)
  refine y_aload_n (pc := 20) hR 0 dX3_init_20 rfl rfl hq0 ?_
  refine y_bipush (pc := 21) hR dX3_init_21 rfl ?_
  refine z_chk (fun hc9 => ?_)
  refine y_newa0 (pc := 23) hR (len := 10) jar_0 rfl (by decide) hc9 dX3_init_23 (fun M10 => ?_)
  refine z_chk (fun hc12 => ?_)
  refine y_putr (pc := 25) hR (cq := 4) (j := 3) jpf_RX3_18 (jkb_ok hc12.1.1) hc12.1.2 (by decide) rfl rfl hc12.2 (fun _ => rfl) (fun _ => rfl) dX3_init_25 (fun M11 => ?_)
  refine z_chk (fun hc13 => ?_)
  exact y_return (x := 0) (pc := 28) hR dX3_init_28 hc13 rfl
theorem dX5_init_0 : decode cX5_init 0 = .ok (.aload_n 0, 1) := by decide +kernel
theorem dX5_init_1 : decode cX5_init 1 = .ok (.invokespecial 3, 3) := by decide +kernel
theorem dX5_init_4 : decode cX5_init 4 = .ok (.aload_n 0, 1) := by decide +kernel
theorem dX5_init_5 : decode cX5_init 5 = .ok (.sipush 400, 3) := by decide +kernel
theorem dX5_init_8 : decode cX5_init 8 = .ok (.newarray .int, 2) := by decide +kernel
theorem dX5_init_10 : decode cX5_init 10 = .ok (.putfield 9, 3) := by decide +kernel
theorem dX5_init_13 : decode cX5_init 13 = .ok (.aload_n 0, 1) := by decide +kernel
theorem dX5_init_14 : decode cX5_init 14 = .ok (.bipush 12, 2) := by decide +kernel
theorem dX5_init_16 : decode cX5_init 16 = .ok (.newarray .int, 2) := by decide +kernel
theorem dX5_init_18 : decode cX5_init 18 = .ok (.putfield 15, 3) := by decide +kernel
theorem dX5_init_21 : decode cX5_init 21 = .ok (.aload_n 0, 1) := by decide +kernel
theorem dX5_init_22 : decode cX5_init 22 = .ok (.bipush 12, 2) := by decide +kernel
theorem dX5_init_24 : decode cX5_init 24 = .ok (.newarray .int, 2) := by decide +kernel
theorem dX5_init_26 : decode cX5_init 26 = .ok (.putfield 18, 3) := by decide +kernel
theorem dX5_init_29 : decode cX5_init 29 = .ok (.aload_n 0, 1) := by decide +kernel
theorem dX5_init_30 : decode cX5_init 30 = .ok (.bipush 12, 2) := by decide +kernel
theorem dX5_init_32 : decode cX5_init 32 = .ok (.newarray .int, 2) := by decide +kernel
theorem dX5_init_34 : decode cX5_init 34 = .ok (.putfield 21, 3) := by decide +kernel
theorem dX5_init_37 : decode cX5_init 37 = .ok (.aload_n 0, 1) := by decide +kernel
theorem dX5_init_38 : decode cX5_init 38 = .ok (.bipush 40, 2) := by decide +kernel
theorem dX5_init_40 : decode cX5_init 40 = .ok (.newarray .long, 2) := by decide +kernel
theorem dX5_init_42 : decode cX5_init 42 = .ok (.putfield 24, 3) := by decide +kernel
theorem dX5_init_45 : decode cX5_init 45 = .ok (.return_, 1) := by decide +kernel
def Ru_init (N nE : Nat) (q : Int) (M : jMem) : Option (Int × jMem) := jchk (0 ≤ q) <| jchk (jn M < nE ∧ jTX[jn M]? = some (1000000 * (0 + 1) + 400)) <| jlt (jnewM jTX M) fun M2 => jchk ((jkb jTX q 5 = true ∧ q < M2 (-1) 0) ∧ 0 ≤ (M (-1) 0)) <| jlt (up M2 q 0 ((M (-1) 0))) fun M3 => jchk (jn M3 < nE ∧ jTX[jn M3]? = some (1000000 * (0 + 1) + 12)) <| jlt (jnewM jTX M3) fun M6 => jchk ((jkb jTX q 5 = true ∧ q < M6 (-1) 0) ∧ 0 ≤ (M3 (-1) 0)) <| jlt (up M6 q 2 ((M3 (-1) 0))) fun M7 => jchk (jn M7 < nE ∧ jTX[jn M7]? = some (1000000 * (0 + 1) + 12)) <| jlt (jnewM jTX M7) fun M10 => jchk ((jkb jTX q 5 = true ∧ q < M10 (-1) 0) ∧ 0 ≤ (M7 (-1) 0)) <| jlt (up M10 q 3 ((M7 (-1) 0))) fun M11 => jchk (jn M11 < nE ∧ jTX[jn M11]? = some (1000000 * (0 + 1) + 12)) <| jlt (jnewM jTX M11) fun M14 => jchk ((jkb jTX q 5 = true ∧ q < M14 (-1) 0) ∧ 0 ≤ (M11 (-1) 0)) <| jlt (up M14 q 4 ((M11 (-1) 0))) fun M15 => jchk (jn M15 < nE ∧ jTX[jn M15]? = some (1000000 * (4 + 1) + 40)) <| jlt (jnewM jTX M15) fun M18 => jchk ((jkb jTX q 5 = true ∧ q < M18 (-1) 0) ∧ 0 ≤ (M15 (-1) 0)) <| jlt (up M18 q 6 ((M15 (-1) 0))) fun M19 => jchk (jn M19 = nE) <| some (0, M19)
theorem c_Ru_init {l : Launch} {g : jG} (N nE : Nat) (q : Int) (M : jMem) : ∀ o, Ru_init N nE q M = some o → jC1 l g jTX yX5_init cX5_init 1 (jn M) nE 1 q M o := by
  refine jMet1 (own := RX5) (em := id) (by decide +kernel) rfl rfl (by decide) (fun K hR => ?_)
  unfold Ru_init
  refine z_chk (fun hq0 => ?_)
  refine y_aload_n (pc := 0) hR 0 dX5_init_0 rfl rfl hq0 ?_
  refine y_obj (pc := 1) hR hq0 jl_RX5_3 jw_obj_i jw_obj_c (by decide) (Nat.le_of_ble_eq_true rfl) dX5_init_1 ?_
  refine y_aload_n (pc := 4) hR 0 dX5_init_4 rfl rfl hq0 ?_
  refine y_sipush (pc := 5) hR dX5_init_5 rfl ?_
  refine z_chk (fun hc1 => ?_)
  refine y_newa0 (pc := 8) hR (len := 400) jar_0 rfl (by decide) hc1 dX5_init_8 (fun M2 => ?_)
  refine z_chk (fun hc4 => ?_)
  refine y_putr (pc := 10) hR (cq := 2) (j := 0) jpf_RX5_9 (jkb_ok hc4.1.1) hc4.1.2 (by decide) rfl rfl hc4.2 (fun _ => rfl) (fun _ => rfl) dX5_init_10 (fun M3 => ?_)
  refine y_aload_n (pc := 13) hR 0 dX5_init_13 rfl rfl hq0 ?_
  refine y_bipush (pc := 14) hR dX5_init_14 rfl ?_
  refine z_chk (fun hc5 => ?_)
  refine y_newa0 (pc := 16) hR (len := 12) jar_0 rfl (by decide) hc5 dX5_init_16 (fun M6 => ?_)
  refine z_chk (fun hc8 => ?_)
  refine y_putr (pc := 18) hR (cq := 3) (j := 2) jpf_RX5_15 (jkb_ok hc8.1.1) hc8.1.2 (by decide) rfl rfl hc8.2 (fun _ => rfl) (fun _ => rfl) dX5_init_18 (fun M7 => ?_)
  refine y_aload_n (pc := 21) hR 0 dX5_init_21 rfl rfl hq0 ?_
  refine y_bipush (pc := 22) hR dX5_init_22 rfl ?_
  refine z_chk (fun hc9 => ?_)
  refine y_newa0 (pc := 24) hR (len := 12) jar_0 rfl (by decide) hc9 dX5_init_24 (fun M10 => ?_)
  refine z_chk (fun hc12 => ?_)
  refine y_putr (pc := 26) hR (cq := 4) (j := 3) jpf_RX5_18 (jkb_ok hc12.1.1) hc12.1.2 (by decide) rfl rfl hc12.2 (fun _ => rfl) (fun _ => rfl) dX5_init_26 (fun M11 => ?_)
  refine y_aload_n (pc := 29) hR 0 dX5_init_29 rfl rfl hq0 ?_
  refine y_bipush (pc := 30) hR dX5_init_30 rfl ?_
  refine z_chk (fun hc13 => ?_)
  refine y_newa0 (pc := 32) hR (len := 12) jar_0 rfl (by decide) hc13 dX5_init_32 (fun M14 => ?_)
  refine z_chk (fun hc16 => ?_)
  refine y_putr (pc := 34) hR (cq := 5) (j := 4) jpf_RX5_21 (jkb_ok hc16.1.1) hc16.1.2 (by decide) rfl rfl hc16.2 (fun _ => rfl) (fun _ => rfl) dX5_init_34 (fun M15 => ?_)
  refine y_aload_n (pc := 37) hR 0 dX5_init_37 rfl rfl hq0 ?_
  refine y_bipush (pc := 38) hR dX5_init_38 rfl ?_
  refine z_chk (fun hc17 => ?_)
  refine y_newa4 (pc := 40) hR (len := 40) jar_4 rfl (by decide) hc17 dX5_init_40 (fun M18 => ?_)
  refine z_chk (fun hc20 => ?_)
  refine y_putr (pc := 42) hR (cq := 6) (j := 6) jpf_RX5_24 (jkb_ok hc20.1.1) hc20.1.2 (by decide) rfl rfl hc20.2 (fun _ => rfl) (fun _ => rfl) dX5_init_42 (fun M19 => ?_)
  refine z_chk (fun hc21 => ?_)
  exact y_return (x := 0) (pc := 45) hR dX5_init_45 hc21 rfl
theorem dX6_init_0 : decode cX6_init 0 = .ok (.aload_n 0, 1) := by decide +kernel
theorem dX6_init_1 : decode cX6_init 1 = .ok (.invokespecial 3, 3) := by decide +kernel
theorem dX6_init_4 : decode cX6_init 4 = .ok (.return_, 1) := by decide +kernel
def Rr_init (N nE : Nat) (q : Int) (M : jMem) : Option (Int × jMem) := jchk (0 ≤ q) <| jchk (jn M = nE) <| some (0, M)
theorem c_Rr_init {l : Launch} {g : jG} (N nE : Nat) (q : Int) (M : jMem) : ∀ o, Rr_init N nE q M = some o → jC1 l g jTX yX6_init cX6_init 1 (jn M) nE 1 q M o := by
  refine jMet1 (own := RX6) (em := id) (by decide +kernel) rfl rfl (by decide) (fun K hR => ?_)
  unfold Rr_init
  refine z_chk (fun hq0 => ?_)
  refine y_aload_n (pc := 0) hR 0 dX6_init_0 rfl rfl hq0 ?_
  refine y_obj (pc := 1) hR hq0 jl_RX6_3 jw_obj_i jw_obj_c (by decide) (Nat.le_of_ble_eq_true rfl) dX6_init_1 ?_
  refine z_chk (fun hc1 => ?_)
  exact y_return (x := 0) (pc := 4) hR dX6_init_4 hc1 rfl
theorem dX8_init_0 : decode cX8_init 0 = .ok (.aload_n 0, 1) := by decide +kernel
theorem dX8_init_1 : decode cX8_init 1 = .ok (.invokespecial 3, 3) := by decide +kernel
theorem dX8_init_4 : decode cX8_init 4 = .ok (.aload_n 0, 1) := by decide +kernel
theorem dX8_init_5 : decode cX8_init 5 = .ok (.sipush 401, 3) := by decide +kernel
theorem dX8_init_8 : decode cX8_init 8 = .ok (.newarray .int, 2) := by decide +kernel
theorem dX8_init_10 : decode cX8_init 10 = .ok (.putfield 9, 3) := by decide +kernel
theorem dX8_init_13 : decode cX8_init 13 = .ok (.aload_n 0, 1) := by decide +kernel
theorem dX8_init_14 : decode cX8_init 14 = .ok (.sipush 401, 3) := by decide +kernel
theorem dX8_init_17 : decode cX8_init 17 = .ok (.newarray .int, 2) := by decide +kernel
theorem dX8_init_19 : decode cX8_init 19 = .ok (.putfield 15, 3) := by decide +kernel
theorem dX8_init_22 : decode cX8_init 22 = .ok (.aload_n 0, 1) := by decide +kernel
theorem dX8_init_23 : decode cX8_init 23 = .ok (.sipush 401, 3) := by decide +kernel
theorem dX8_init_26 : decode cX8_init 26 = .ok (.newarray .int, 2) := by decide +kernel
theorem dX8_init_28 : decode cX8_init 28 = .ok (.putfield 18, 3) := by decide +kernel
theorem dX8_init_31 : decode cX8_init 31 = .ok (.return_, 1) := by decide +kernel
def To_init (N nE : Nat) (q : Int) (M : jMem) : Option (Int × jMem) := jchk (0 ≤ q) <| jchk (jn M < nE ∧ jTX[jn M]? = some (1000000 * (0 + 1) + 401)) <| jlt (jnewM jTX M) fun M2 => jchk ((jkb jTX q 8 = true ∧ q < M2 (-1) 0) ∧ 0 ≤ (M (-1) 0)) <| jlt (up M2 q 0 ((M (-1) 0))) fun M3 => jchk (jn M3 < nE ∧ jTX[jn M3]? = some (1000000 * (0 + 1) + 401)) <| jlt (jnewM jTX M3) fun M6 => jchk ((jkb jTX q 8 = true ∧ q < M6 (-1) 0) ∧ 0 ≤ (M3 (-1) 0)) <| jlt (up M6 q 1 ((M3 (-1) 0))) fun M7 => jchk (jn M7 < nE ∧ jTX[jn M7]? = some (1000000 * (0 + 1) + 401)) <| jlt (jnewM jTX M7) fun M10 => jchk ((jkb jTX q 8 = true ∧ q < M10 (-1) 0) ∧ 0 ≤ (M7 (-1) 0)) <| jlt (up M10 q 2 ((M7 (-1) 0))) fun M11 => jchk (jn M11 = nE) <| some (0, M11)
theorem c_To_init {l : Launch} {g : jG} (N nE : Nat) (q : Int) (M : jMem) : ∀ o, To_init N nE q M = some o → jC1 l g jTX yX8_init cX8_init 1 (jn M) nE 1 q M o := by
  refine jMet1 (own := RX8) (em := id) (by decide +kernel) rfl rfl (by decide) (fun K hR => ?_)
  unfold To_init
  refine z_chk (fun hq0 => ?_)
  refine y_aload_n (pc := 0) hR 0 dX8_init_0 rfl rfl hq0 ?_
  refine y_obj (pc := 1) hR hq0 jl_RX8_3 jw_obj_i jw_obj_c (by decide) (Nat.le_of_ble_eq_true rfl) dX8_init_1 ?_
  refine y_aload_n (pc := 4) hR 0 dX8_init_4 rfl rfl hq0 ?_
  refine y_sipush (pc := 5) hR dX8_init_5 rfl ?_
  refine z_chk (fun hc1 => ?_)
  refine y_newa0 (pc := 8) hR (len := 401) jar_0 rfl (by decide) hc1 dX8_init_8 (fun M2 => ?_)
  refine z_chk (fun hc4 => ?_)
  refine y_putr (pc := 10) hR (cq := 2) (j := 0) jpf_RX8_9 (jkb_ok hc4.1.1) hc4.1.2 (by decide) rfl rfl hc4.2 (fun _ => rfl) (fun _ => rfl) dX8_init_10 (fun M3 => ?_)
  refine y_aload_n (pc := 13) hR 0 dX8_init_13 rfl rfl hq0 ?_
  refine y_sipush (pc := 14) hR dX8_init_14 rfl ?_
  refine z_chk (fun hc5 => ?_)
  refine y_newa0 (pc := 17) hR (len := 401) jar_0 rfl (by decide) hc5 dX8_init_17 (fun M6 => ?_)
  refine z_chk (fun hc8 => ?_)
  refine y_putr (pc := 19) hR (cq := 3) (j := 1) jpf_RX8_15 (jkb_ok hc8.1.1) hc8.1.2 (by decide) rfl rfl hc8.2 (fun _ => rfl) (fun _ => rfl) dX8_init_19 (fun M7 => ?_)
  refine y_aload_n (pc := 22) hR 0 dX8_init_22 rfl rfl hq0 ?_
  refine y_sipush (pc := 23) hR dX8_init_23 rfl ?_
  refine z_chk (fun hc9 => ?_)
  refine y_newa0 (pc := 26) hR (len := 401) jar_0 rfl (by decide) hc9 dX8_init_26 (fun M10 => ?_)
  refine z_chk (fun hc12 => ?_)
  refine y_putr (pc := 28) hR (cq := 4) (j := 2) jpf_RX8_18 (jkb_ok hc12.1.1) hc12.1.2 (by decide) rfl rfl hc12.2 (fun _ => rfl) (fun _ => rfl) dX8_init_28 (fun M11 => ?_)
  refine z_chk (fun hc13 => ?_)
  exact y_return (x := 0) (pc := 31) hR dX8_init_31 hc13 rfl
theorem dX10_init_0 : decode cX10_init 0 = .ok (.aload_n 0, 1) := by decide +kernel
theorem dX10_init_1 : decode cX10_init 1 = .ok (.invokespecial 3, 3) := by decide +kernel
theorem dX10_init_4 : decode cX10_init 4 = .ok (.aload_n 0, 1) := by decide +kernel
theorem dX10_init_5 : decode cX10_init 5 = .ok (.bipush 7, 2) := by decide +kernel
theorem dX10_init_7 : decode cX10_init 7 = .ok (.newarray .int, 2) := by decide +kernel
theorem dX10_init_9 : decode cX10_init 9 = .ok (.putfield 9, 3) := by decide +kernel
theorem dX10_init_12 : decode cX10_init 12 = .ok (.aload_n 0, 1) := by decide +kernel
theorem dX10_init_13 : decode cX10_init 13 = .ok (.bipush 12, 2) := by decide +kernel
theorem dX10_init_15 : decode cX10_init 15 = .ok (.newarray .long, 2) := by decide +kernel
theorem dX10_init_17 : decode cX10_init 17 = .ok (.putfield 15, 3) := by decide +kernel
theorem dX10_init_20 : decode cX10_init 20 = .ok (.return_, 1) := by decide +kernel
def Ye_init (N nE : Nat) (q : Int) (M : jMem) : Option (Int × jMem) := jchk (0 ≤ q) <| jchk (jn M < nE ∧ jTX[jn M]? = some (1000000 * (0 + 1) + 7)) <| jlt (jnewM jTX M) fun M2 => jchk ((jkb jTX q 10 = true ∧ q < M2 (-1) 0) ∧ 0 ≤ (M (-1) 0)) <| jlt (up M2 q 0 ((M (-1) 0))) fun M3 => jchk (jn M3 < nE ∧ jTX[jn M3]? = some (1000000 * (4 + 1) + 12)) <| jlt (jnewM jTX M3) fun M6 => jchk ((jkb jTX q 10 = true ∧ q < M6 (-1) 0) ∧ 0 ≤ (M3 (-1) 0)) <| jlt (up M6 q 2 ((M3 (-1) 0))) fun M7 => jchk (jn M7 = nE) <| some (0, M7)
theorem c_Ye_init {l : Launch} {g : jG} (N nE : Nat) (q : Int) (M : jMem) : ∀ o, Ye_init N nE q M = some o → jC1 l g jTX yX10_init cX10_init 1 (jn M) nE 1 q M o := by
  refine jMet1 (own := RX10) (em := id) (by decide +kernel) rfl rfl (by decide) (fun K hR => ?_)
  unfold Ye_init
  refine z_chk (fun hq0 => ?_)
  refine y_aload_n (pc := 0) hR 0 dX10_init_0 rfl rfl hq0 ?_
  refine y_obj (pc := 1) hR hq0 jl_RX10_3 jw_obj_i jw_obj_c (by decide) (Nat.le_of_ble_eq_true rfl) dX10_init_1 ?_
  refine y_aload_n (pc := 4) hR 0 dX10_init_4 rfl rfl hq0 ?_
  refine y_bipush (pc := 5) hR dX10_init_5 rfl ?_
  refine z_chk (fun hc1 => ?_)
  refine y_newa0 (pc := 7) hR (len := 7) jar_0 rfl (by decide) hc1 dX10_init_7 (fun M2 => ?_)
  refine z_chk (fun hc4 => ?_)
  refine y_putr (pc := 9) hR (cq := 2) (j := 0) jpf_RX10_9 (jkb_ok hc4.1.1) hc4.1.2 (by decide) rfl rfl hc4.2 (fun _ => rfl) (fun _ => rfl) dX10_init_9 (fun M3 => ?_)
  refine y_aload_n (pc := 12) hR 0 dX10_init_12 rfl rfl hq0 ?_
  refine y_bipush (pc := 13) hR dX10_init_13 rfl ?_
  refine z_chk (fun hc5 => ?_)
  refine y_newa4 (pc := 15) hR (len := 12) jar_4 rfl (by decide) hc5 dX10_init_15 (fun M6 => ?_)
  refine z_chk (fun hc8 => ?_)
  refine y_putr (pc := 17) hR (cq := 3) (j := 2) jpf_RX10_15 (jkb_ok hc8.1.1) hc8.1.2 (by decide) rfl rfl hc8.2 (fun _ => rfl) (fun _ => rfl) dX10_init_17 (fun M7 => ?_)
  refine z_chk (fun hc9 => ?_)
  exact y_return (x := 0) (pc := 20) hR dX10_init_20 hc9 rfl
theorem dX2_init_0 : decode cX2_init 0 = .ok (.aload_n 0, 1) := by decide +kernel
theorem dX2_init_1 : decode cX2_init 1 = .ok (.invokespecial 3, 3) := by decide +kernel
theorem dX2_init_4 : decode cX2_init 4 = .ok (.aload_n 0, 1) := by decide +kernel
theorem dX2_init_5 : decode cX2_init 5 = .ok (.sipush 5040, 3) := by decide +kernel
theorem dX2_init_8 : decode cX2_init 8 = .ok (.newarray .byte, 2) := by decide +kernel
theorem dX2_init_10 : decode cX2_init 10 = .ok (.putfield 11, 3) := by decide +kernel
theorem dX2_init_13 : decode cX2_init 13 = .ok (.aload_n 0, 1) := by decide +kernel
theorem dX2_init_14 : decode cX2_init 14 = .ok (.sipush 5040, 3) := by decide +kernel
theorem dX2_init_17 : decode cX2_init 17 = .ok (.newarray .short, 2) := by decide +kernel
theorem dX2_init_19 : decode cX2_init 19 = .ok (.putfield 15, 3) := by decide +kernel
theorem dX2_init_22 : decode cX2_init 22 = .ok (.aload_n 0, 1) := by decide +kernel
theorem dX2_init_23 : decode cX2_init 23 = .ok (.bipush 7, 2) := by decide +kernel
theorem dX2_init_25 : decode cX2_init 25 = .ok (.newarray .int, 2) := by decide +kernel
theorem dX2_init_27 : decode cX2_init 27 = .ok (.putfield 19, 3) := by decide +kernel
theorem dX2_init_30 : decode cX2_init 30 = .ok (.aload_n 0, 1) := by decide +kernel
theorem dX2_init_31 : decode cX2_init 31 = .ok (.bipush 7, 2) := by decide +kernel
theorem dX2_init_33 : decode cX2_init 33 = .ok (.newarray .int, 2) := by decide +kernel
theorem dX2_init_35 : decode cX2_init 35 = .ok (.putfield 23, 3) := by decide +kernel
theorem dX2_init_38 : decode cX2_init 38 = .ok (.aload_n 0, 1) := by decide +kernel
theorem dX2_init_39 : decode cX2_init 39 = .ok (.bipush 7, 2) := by decide +kernel
theorem dX2_init_41 : decode cX2_init 41 = .ok (.newarray .int, 2) := by decide +kernel
theorem dX2_init_43 : decode cX2_init 43 = .ok (.putfield 26, 3) := by decide +kernel
theorem dX2_init_46 : decode cX2_init 46 = .ok (.return_, 1) := by decide +kernel
def Li_init (N nE : Nat) (q : Int) (M : jMem) : Option (Int × jMem) := jchk (0 ≤ q) <| jchk (jn M < nE ∧ jTX[jn M]? = some (1000000 * (1 + 1) + 5040)) <| jlt (jnewM jTX M) fun M2 => jchk ((jkb jTX q 2 = true ∧ q < M2 (-1) 0) ∧ 0 ≤ (M (-1) 0)) <| jlt (up M2 q 0 ((M (-1) 0))) fun M3 => jchk (jn M3 < nE ∧ jTX[jn M3]? = some (1000000 * (2 + 1) + 5040)) <| jlt (jnewM jTX M3) fun M6 => jchk ((jkb jTX q 2 = true ∧ q < M6 (-1) 0) ∧ 0 ≤ (M3 (-1) 0)) <| jlt (up M6 q 1 ((M3 (-1) 0))) fun M7 => jchk (jn M7 < nE ∧ jTX[jn M7]? = some (1000000 * (0 + 1) + 7)) <| jlt (jnewM jTX M7) fun M10 => jchk ((jkb jTX q 2 = true ∧ q < M10 (-1) 0) ∧ 0 ≤ (M7 (-1) 0)) <| jlt (up M10 q 4 ((M7 (-1) 0))) fun M11 => jchk (jn M11 < nE ∧ jTX[jn M11]? = some (1000000 * (0 + 1) + 7)) <| jlt (jnewM jTX M11) fun M14 => jchk ((jkb jTX q 2 = true ∧ q < M14 (-1) 0) ∧ 0 ≤ (M11 (-1) 0)) <| jlt (up M14 q 5 ((M11 (-1) 0))) fun M15 => jchk (jn M15 < nE ∧ jTX[jn M15]? = some (1000000 * (0 + 1) + 7)) <| jlt (jnewM jTX M15) fun M18 => jchk ((jkb jTX q 2 = true ∧ q < M18 (-1) 0) ∧ 0 ≤ (M15 (-1) 0)) <| jlt (up M18 q 6 ((M15 (-1) 0))) fun M19 => jchk (jn M19 = nE) <| some (0, M19)
theorem c_Li_init {l : Launch} {g : jG} (N nE : Nat) (q : Int) (M : jMem) : ∀ o, Li_init N nE q M = some o → jC1 l g jTX yX2_init cX2_init 1 (jn M) nE 1 q M o := by
  refine jMet1 (own := RX2) (em := id) (by decide +kernel) rfl rfl (by decide) (fun K hR => ?_)
  unfold Li_init
  refine z_chk (fun hq0 => ?_)
  refine y_aload_n (pc := 0) hR 0 dX2_init_0 rfl rfl hq0 ?_
  refine y_obj (pc := 1) hR hq0 jl_RX2_3 jw_obj_i jw_obj_c (by decide) (Nat.le_of_ble_eq_true rfl) dX2_init_1 ?_
  refine y_aload_n (pc := 4) hR 0 dX2_init_4 rfl rfl hq0 ?_
  refine y_sipush (pc := 5) hR dX2_init_5 rfl ?_
  refine z_chk (fun hc1 => ?_)
  refine y_newa1 (pc := 8) hR (len := 5040) jar_1 rfl (by decide) hc1 dX2_init_8 (fun M2 => ?_)
  refine z_chk (fun hc4 => ?_)
  refine y_putr (pc := 10) hR (cq := 2) (j := 0) jpf_RX2_11 (jkb_ok hc4.1.1) hc4.1.2 (by decide) rfl rfl hc4.2 (fun _ => rfl) (fun _ => rfl) dX2_init_10 (fun M3 => ?_)
  refine y_aload_n (pc := 13) hR 0 dX2_init_13 rfl rfl hq0 ?_
  refine y_sipush (pc := 14) hR dX2_init_14 rfl ?_
  refine z_chk (fun hc5 => ?_)
  refine y_newa2 (pc := 17) hR (len := 5040) jar_2 rfl (by decide) hc5 dX2_init_17 (fun M6 => ?_)
  refine z_chk (fun hc8 => ?_)
  refine y_putr (pc := 19) hR (cq := 3) (j := 1) jpf_RX2_15 (jkb_ok hc8.1.1) hc8.1.2 (by decide) rfl rfl hc8.2 (fun _ => rfl) (fun _ => rfl) dX2_init_19 (fun M7 => ?_)
  refine y_aload_n (pc := 22) hR 0 dX2_init_22 rfl rfl hq0 ?_
  refine y_bipush (pc := 23) hR dX2_init_23 rfl ?_
  refine z_chk (fun hc9 => ?_)
  refine y_newa0 (pc := 25) hR (len := 7) jar_0 rfl (by decide) hc9 dX2_init_25 (fun M10 => ?_)
  refine z_chk (fun hc12 => ?_)
  refine y_putr (pc := 27) hR (cq := 4) (j := 4) jpf_RX2_19 (jkb_ok hc12.1.1) hc12.1.2 (by decide) rfl rfl hc12.2 (fun _ => rfl) (fun _ => rfl) dX2_init_27 (fun M11 => ?_)
  refine y_aload_n (pc := 30) hR 0 dX2_init_30 rfl rfl hq0 ?_
  refine y_bipush (pc := 31) hR dX2_init_31 rfl ?_
  refine z_chk (fun hc13 => ?_)
  refine y_newa0 (pc := 33) hR (len := 7) jar_0 rfl (by decide) hc13 dX2_init_33 (fun M14 => ?_)
  refine z_chk (fun hc16 => ?_)
  refine y_putr (pc := 35) hR (cq := 5) (j := 5) jpf_RX2_23 (jkb_ok hc16.1.1) hc16.1.2 (by decide) rfl rfl hc16.2 (fun _ => rfl) (fun _ => rfl) dX2_init_35 (fun M15 => ?_)
  refine y_aload_n (pc := 38) hR 0 dX2_init_38 rfl rfl hq0 ?_
  refine y_bipush (pc := 39) hR dX2_init_39 rfl ?_
  refine z_chk (fun hc17 => ?_)
  refine y_newa0 (pc := 41) hR (len := 7) jar_0 rfl (by decide) hc17 dX2_init_41 (fun M18 => ?_)
  refine z_chk (fun hc20 => ?_)
  refine y_putr (pc := 43) hR (cq := 6) (j := 6) jpf_RX2_26 (jkb_ok hc20.1.1) hc20.1.2 (by decide) rfl rfl hc20.2 (fun _ => rfl) (fun _ => rfl) dX2_init_43 (fun M19 => ?_)
  refine z_chk (fun hc21 => ?_)
  exact y_return (x := 0) (pc := 46) hR dX2_init_46 hc21 rfl
theorem dX9_init_0 : decode cX9_init 0 = .ok (.aload_n 0, 1) := by decide +kernel
theorem dX9_init_1 : decode cX9_init 1 = .ok (.invokespecial 3, 3) := by decide +kernel
theorem dX9_init_4 : decode cX9_init 4 = .ok (.aload_n 0, 1) := by decide +kernel
theorem dX9_init_5 : decode cX9_init 5 = .ok (.new 9, 3) := by decide +kernel
theorem dX9_init_8 : decode cX9_init 8 = .ok (.dup, 1) := by decide +kernel
theorem dX9_init_9 : decode cX9_init 9 = .ok (.invokespecial 11, 3) := by decide +kernel
theorem dX9_init_12 : decode cX9_init 12 = .ok (.putfield 12, 3) := by decide +kernel
theorem dX9_init_15 : decode cX9_init 15 = .ok (.aload_n 0, 1) := by decide +kernel
theorem dX9_init_16 : decode cX9_init 16 = .ok (.new 18, 3) := by decide +kernel
theorem dX9_init_19 : decode cX9_init 19 = .ok (.dup, 1) := by decide +kernel
theorem dX9_init_20 : decode cX9_init 20 = .ok (.invokespecial 20, 3) := by decide +kernel
theorem dX9_init_23 : decode cX9_init 23 = .ok (.putfield 21, 3) := by decide +kernel
theorem dX9_init_26 : decode cX9_init 26 = .ok (.aload_n 0, 1) := by decide +kernel
theorem dX9_init_27 : decode cX9_init 27 = .ok (.new 25, 3) := by decide +kernel
theorem dX9_init_30 : decode cX9_init 30 = .ok (.dup, 1) := by decide +kernel
theorem dX9_init_31 : decode cX9_init 31 = .ok (.invokespecial 27, 3) := by decide +kernel
theorem dX9_init_34 : decode cX9_init 34 = .ok (.putfield 28, 3) := by decide +kernel
theorem dX9_init_37 : decode cX9_init 37 = .ok (.aload_n 0, 1) := by decide +kernel
theorem dX9_init_38 : decode cX9_init 38 = .ok (.iconst (-1), 1) := by decide +kernel
theorem dX9_init_39 : decode cX9_init 39 = .ok (.putfield 32, 3) := by decide +kernel
theorem dX9_init_42 : decode cX9_init 42 = .ok (.return_, 1) := by decide +kernel
def Wo_init (N nE : Nat) (q : Int) (M : jMem) : Option (Int × jMem) := jchk (0 ≤ q) <| jchk (jn M < nE ∧ jTX[jn M]? = some 4) <| jlt (jnewM jTX M) fun M3 => jchk (0 ≤ (M (-1) 0) ∧ jn M3 + 5 ≤ nE) <| jbv (Pa_init N (jn M3 + 5) ((M (-1) 0)) M3) fun M5 => jchk ((jkb jTX q 9 = true ∧ q < M5 (-1) 0) ∧ 0 ≤ (M (-1) 0)) <| jlt (up M5 q 0 ((M (-1) 0))) fun M6 => jchk (jn M6 < nE ∧ jTX[jn M6]? = some 7) <| jlt (jnewM jTX M6) fun M10 => jchk (0 ≤ (M6 (-1) 0) ∧ jn M10 + 5 ≤ nE) <| jbv (St_init N (jn M10 + 5) ((M6 (-1) 0)) M10) fun M12 => jchk ((jkb jTX q 9 = true ∧ q < M12 (-1) 0) ∧ 0 ≤ (M6 (-1) 0)) <| jlt (up M12 q 1 ((M6 (-1) 0))) fun M13 => jchk (jn M13 < nE ∧ jTX[jn M13]? = some 3) <| jlt (jnewM jTX M13) fun M17 => jchk (0 ≤ (M13 (-1) 0) ∧ jn M17 + 3 ≤ nE) <| jbv (No_init N (jn M17 + 3) ((M13 (-1) 0)) M17) fun M19 => jchk ((jkb jTX q 9 = true ∧ q < M19 (-1) 0) ∧ 0 ≤ (M13 (-1) 0)) <| jlt (up M19 q 2 ((M13 (-1) 0))) fun M20 => jchk (jkb jTX q 9 = true ∧ q < M20 (-1) 0) <| jlt (up M20 q 3 ((-1))) fun M22 => jchk (jn M22 = nE) <| some (0, M22)
theorem c_Wo_init {l : Launch} {g : jG} (N nE : Nat) (q : Int) (M : jMem) : ∀ o, Wo_init N nE q M = some o → jC1 l g jTX yX9_init cX9_init 1 (jn M) nE 2 q M o := by
  refine jMet1 (own := RX9) (em := id) (by decide +kernel) rfl rfl (by decide) (fun K hR => ?_)
  unfold Wo_init
  refine z_chk (fun hq0 => ?_)
  refine y_aload_n (pc := 0) hR 0 dX9_init_0 rfl rfl hq0 ?_
  refine y_obj (pc := 1) hR hq0 jl_RX9_3 jw_obj_i jw_obj_c (by decide) (Nat.le_of_ble_eq_true rfl) dX9_init_1 ?_
  refine y_aload_n (pc := 4) hR 0 dX9_init_4 rfl rfl hq0 ?_
  refine z_chk (fun hc1 => ?_)
  refine y_new (pc := 5) hR (ci := 4) (N := 7) (C := RX4) (Tb := TX4) (ty := tyX4) rfl jin_4 tyX4_ok (by decide) rfl (by decide +kernel) jk_RX9_9 ji_RX4 jz_RX4 hc1 dX9_init_5 (fun M3 => ?_)
  refine y_dup (pc := 8) hR dX9_init_8 (by decide) ?_
  refine z_chk (fun hc4 => ?_)
  refine y_call (pc := 9) hR (st := [(2, (M (-1) 0)), (2, q)]) (n1 := jn M3 + 5) jq_X4_init (List.mem_of_getElem? (i := 4) rfl) (c_Pa_init N (jn M3 + 5) ((M (-1) 0)) M3) hc4.1 ⟨Nat.le_add_right _ _, hc4.2⟩ (by decide) (by decide) (Nat.le_of_ble_eq_true rfl) dX9_init_9 (fun M5 => ?_)
  refine z_chk (fun hc7 => ?_)
  refine y_putr (pc := 12) hR (cq := 2) (j := 0) jpf_RX9_12 (jkb_ok hc7.1.1) hc7.1.2 (by decide) rfl rfl hc7.2 (fun _ => rfl) (fun _ => rfl) dX9_init_12 (fun M6 => ?_)
  refine y_aload_n (pc := 15) hR 0 dX9_init_15 rfl rfl hq0 ?_
  refine z_chk (fun hc8 => ?_)
  refine y_new (pc := 16) hR (ci := 7) (N := 7) (C := RX7) (Tb := TX7) (ty := tyX7) rfl jin_7 tyX7_ok (by decide) rfl (by decide +kernel) jk_RX9_18 ji_RX7 jz_RX7 hc8 dX9_init_16 (fun M10 => ?_)
  refine y_dup (pc := 19) hR dX9_init_19 (by decide) ?_
  refine z_chk (fun hc11 => ?_)
  refine y_call (pc := 20) hR (st := [(2, (M6 (-1) 0)), (2, q)]) (n1 := jn M10 + 5) jq_X7_init (List.mem_of_getElem? (i := 5) rfl) (c_St_init N (jn M10 + 5) ((M6 (-1) 0)) M10) hc11.1 ⟨Nat.le_add_right _ _, hc11.2⟩ (by decide) (by decide) (Nat.le_of_ble_eq_true rfl) dX9_init_20 (fun M12 => ?_)
  refine z_chk (fun hc14 => ?_)
  refine y_putr (pc := 23) hR (cq := 8) (j := 1) jpf_RX9_21 (jkb_ok hc14.1.1) hc14.1.2 (by decide) rfl rfl hc14.2 (fun _ => rfl) (fun _ => rfl) dX9_init_23 (fun M13 => ?_)
  refine y_aload_n (pc := 26) hR 0 dX9_init_26 rfl rfl hq0 ?_
  refine z_chk (fun hc15 => ?_)
  refine y_new (pc := 27) hR (ci := 3) (N := 4) (C := RX3) (Tb := TX3) (ty := tyX3) rfl jin_3 tyX3_ok (by decide) rfl (by decide +kernel) jk_RX9_25 ji_RX3 jz_RX3 hc15 dX9_init_27 (fun M17 => ?_)
  refine y_dup (pc := 30) hR dX9_init_30 (by decide) ?_
  refine z_chk (fun hc18 => ?_)
  refine y_call (pc := 31) hR (st := [(2, (M13 (-1) 0)), (2, q)]) (n1 := jn M17 + 3) jq_X3_init (List.mem_of_getElem? (i := 6) rfl) (c_No_init N (jn M17 + 3) ((M13 (-1) 0)) M17) hc18.1 ⟨Nat.le_add_right _ _, hc18.2⟩ (by decide) (by decide) (Nat.le_of_ble_eq_true rfl) dX9_init_31 (fun M19 => ?_)
  refine z_chk (fun hc21 => ?_)
  refine y_putr (pc := 34) hR (cq := 14) (j := 2) jpf_RX9_28 (jkb_ok hc21.1.1) hc21.1.2 (by decide) rfl rfl hc21.2 (fun _ => rfl) (fun _ => rfl) dX9_init_34 (fun M20 => ?_)
  refine y_aload_n (pc := 37) hR 0 dX9_init_37 rfl rfl hq0 ?_
  refine y_iconst (pc := 38) hR dX9_init_38 rfl ?_
  refine z_chk (fun hc23 => ?_)
  refine y_puti (pc := 39) hR (cq := 0) (j := 3) jp_RX9_32 (jkb_ok hc23.1) hc23.2 (by decide) rfl rfl rfl rfl dX9_init_39 (fun M22 => ?_)
  refine z_chk (fun hc24 => ?_)
  exact y_return (x := 0) (pc := 42) hR dX9_init_42 hc24 rfl
theorem dX0_init_0 : decode cX0_init 0 = .ok (.aload_n 0, 1) := by decide +kernel
theorem dX0_init_1 : decode cX0_init 1 = .ok (.invokespecial 3, 3) := by decide +kernel
theorem dX0_init_4 : decode cX0_init 4 = .ok (.aload_n 0, 1) := by decide +kernel
theorem dX0_init_5 : decode cX0_init 5 = .ok (.bipush 20, 2) := by decide +kernel
theorem dX0_init_7 : decode cX0_init 7 = .ok (.anewarray 9, 3) := by decide +kernel
theorem dX0_init_10 : decode cX0_init 10 = .ok (.putfield 11, 3) := by decide +kernel
theorem dX0_init_13 : decode cX0_init 13 = .ok (.iconst 0, 1) := by decide +kernel
theorem dX0_init_14 : decode cX0_init 14 = .ok (.istore_n 1, 1) := by decide +kernel
theorem dX0_init_15 : decode cX0_init 15 = .ok (.iload_n 1, 1) := by decide +kernel
theorem dX0_init_16 : decode cX0_init 16 = .ok (.bipush 20, 2) := by decide +kernel
theorem dX0_init_18 : decode cX0_init 18 = .ok (.if_icmp .ge 22, 3) := by decide +kernel
theorem dX0_init_21 : decode cX0_init 21 = .ok (.aload_n 0, 1) := by decide +kernel
theorem dX0_init_22 : decode cX0_init 22 = .ok (.getfield 11, 3) := by decide +kernel
theorem dX0_init_25 : decode cX0_init 25 = .ok (.iload_n 1, 1) := by decide +kernel
theorem dX0_init_26 : decode cX0_init 26 = .ok (.new 9, 3) := by decide +kernel
theorem dX0_init_29 : decode cX0_init 29 = .ok (.dup, 1) := by decide +kernel
theorem dX0_init_30 : decode cX0_init 30 = .ok (.invokespecial 17, 3) := by decide +kernel
theorem dX0_init_33 : decode cX0_init 33 = .ok (.aastore, 1) := by decide +kernel
theorem dX0_init_34 : decode cX0_init 34 = .ok (.iinc 1 1, 3) := by decide +kernel
theorem dX0_init_37 : decode cX0_init 37 = .ok (.goto (-22), 3) := by decide +kernel
theorem dX0_init_40 : decode cX0_init 40 = .ok (.return_, 1) := by decide +kernel
def Ac_init_L15 (N : Nat) (nE : Nat) (q : Int) (h15 : (Int × jMem) → Option (Int × jMem)) : Int × jMem → Option (Int × jMem)
  | (x5, M6) => (if x5 < 20 then jchk (jkb jTX q 0 = true ∧ q < M6 (-1) 0) <| jchk (jn M6 < nE ∧ jTX[jn M6]? = some 7) <| jlt (jnewM jTX M6) fun M11 => jchk (0 ≤ (M6 (-1) 0) ∧ jn M11 + 5 ≤ nE) <| jbv (St_init N (jn M11 + 5) ((M6 (-1) 0)) M11) fun M13 => jchk (((jab jTX (M6 q 0) 7 20 = true ∧ (M6 q 0) < M13 (-1) 0) ∧ (jkb jTX (M6 (-1) 0) 7 = true ∧ (M6 (-1) 0) < M13 (-1) 0)) ∧ (0 ≤ x5 ∧ x5 < 20)) <| jlt (up M13 ((M6 q 0)) x5 ((M6 (-1) 0))) fun M15 => h15 ((w32 (x5 + 1)), M15) else jchk (jn M6 = nE) <| some (0, M6))
def Ac_init (N nE : Nat) (q : Int) (M : jMem) : Option (Int × jMem) := jchk (0 ≤ q) <| jchk (jn M < nE ∧ jTX[jn M]? = some (1000000 * (7 + 1) + 20)) <| jlt (jnewM jTX M) fun M2 => jchk ((jkb jTX q 0 = true ∧ q < M2 (-1) 0) ∧ 0 ≤ (M (-1) 0)) <| jlt (up M2 q 0 ((M (-1) 0))) fun M3 => jfix N (Ac_init_L15 N nE q) (0, M3)
theorem c_Ac_init {l : Launch} {g : jG} (N nE : Nat) (q : Int) (M : jMem) : ∀ o, Ac_init N nE q M = some o → jC1 l g jTX yX0_init cX0_init 2 (jn M) nE 2 q M o := by
  refine jMet1 (own := RX0) (em := id) (by decide +kernel) rfl rfl (by decide) (fun K hR => ?_)
  unfold Ac_init
  refine z_chk (fun hq0 => ?_)
  refine y_aload_n (pc := 0) hR 0 dX0_init_0 rfl rfl hq0 ?_
  refine y_obj (pc := 1) hR hq0 jl_RX0_3 jw_obj_i jw_obj_c (by decide) (Nat.le_of_ble_eq_true rfl) dX0_init_1 ?_
  refine y_aload_n (pc := 4) hR 0 dX0_init_4 rfl rfl hq0 ?_
  refine y_bipush (pc := 5) hR dX0_init_5 rfl ?_
  refine z_chk (fun hc1 => ?_)
  refine y_newq7 (pc := 7) hR (len := 20) jk_RX0_9 rfl (by decide) hc1 dX0_init_7 (fun M2 => ?_)
  refine z_chk (fun hc4 => ?_)
  refine y_putr (pc := 10) hR (cq := 2) (j := 0) jpf_RX0_11 (jkb_ok hc4.1.1) hc4.1.2 (by decide) rfl rfl hc4.2 (fun _ => rfl) (fun _ => rfl) dX0_init_10 (fun M3 => ?_)
  refine y_iconst (pc := 13) hR dX0_init_13 rfl ?_
  refine y_istore_n (pc := 14) hR (lv' := [(1, 0, 0), (0, 2, q)]) dX0_init_14 rfl (by decide) rfl ?_
  refine y_pick (pc := 15) (lv' := [(0, 2, q), (1, 0, 0)]) hR [1, 0] rfl ?_
  refine z_fix (σ := Int × jMem) (lv := fun s => [(0, 2, q), (1, 0, s.1)]) (st := fun _ => []) (M := fun s => s.2) (fun h15 hh15 => ?_) N (0, M3)
  rintro ⟨x5, M6⟩
  show jZ K id 15 [(0, 2, q), (1, 0, x5)] [] M6 _
  unfold Ac_init_L15
  refine y_iload_n (pc := 15) hR 1 dX0_init_15 rfl rfl ?_
  refine y_bipush (pc := 16) hR dX0_init_16 rfl ?_
  refine y_icmpge (pc := 18) (tgt := 40) hR dX0_init_18 (by decide) ?_ ?_
  · refine z_chk (fun hc7 => ?_)
    exact y_return (x := 0) (pc := 40) hR dX0_init_40 hc7 rfl
  · refine y_aload_n (pc := 21) hR 0 dX0_init_21 rfl rfl hq0 ?_
    refine z_chk (fun hc8 => ?_)
    refine y_getr (pc := 22) hR (cq := 2) (j := 0) jf_RX0_11 (jkb_ok hc8.1) hc8.2 (by decide) rfl rfl dX0_init_22 ?_
    refine y_iload_n (pc := 25) hR 1 dX0_init_25 rfl rfl ?_
    refine z_chk (fun hc9 => ?_)
    refine y_new (pc := 26) hR (ci := 7) (N := 7) (C := RX7) (Tb := TX7) (ty := tyX7) rfl jin_7 tyX7_ok (by decide) rfl (by decide +kernel) jk_RX0_9 ji_RX7 jz_RX7 hc9 dX0_init_26 (fun M11 => ?_)
    refine y_dup (pc := 29) hR dX0_init_29 (by decide) ?_
    refine z_chk (fun hc12 => ?_)
    refine y_call (pc := 30) hR (st := [(2, (M6 (-1) 0)), (0, x5), (2, (M6 q 0))]) (n1 := jn M11 + 5) jq_X7_init (List.mem_of_getElem? (i := 7) rfl) (c_St_init N (jn M11 + 5) ((M6 (-1) 0)) M11) hc12.1 ⟨Nat.le_add_right _ _, hc12.2⟩ (by decide) (by decide) (Nat.le_of_ble_eq_true rfl) dX0_init_30 (fun M13 => ?_)
    refine z_chk (fun hc14 => ?_)
    refine y_aast (pc := 33) hR (C := RX7) (r := (RX7, TX7, 7)) (n := 20) (by decide : 5 ≤ 7) rfl (jab_ok hc14.1.1.1) hc14.1.1.2 (jkb_ok hc14.1.2.1) hc14.1.2.2 (by decide) rfl hc14.2.1 hc14.2.2 dX0_init_33 (fun M15 => ?_)
    refine y_iinc (pc := 34) hR (j := 1) (lv' := [(1, 0, (w32 (x5 + 1))), (0, 2, q)]) dX0_init_34 rfl (by decide) rfl ?_
    refine y_goto (pc := 37) (tgt := 15) hR dX0_init_37 (by decide) ?_
    refine y_pick (pc := 15) (lv' := [(0, 2, q), (1, 0, (w32 (x5 + 1)))]) hR [1, 0] rfl ?_
    exact hh15 ((w32 (x5 + 1)), M15)
theorem dX1_init_0 : decode cX1_init 0 = .ok (.aload_n 0, 1) := by decide +kernel
theorem dX1_init_1 : decode cX1_init 1 = .ok (.invokespecial 5, 3) := by decide +kernel
theorem dX1_init_4 : decode cX1_init 4 = .ok (.aload_n 0, 1) := by decide +kernel
theorem dX1_init_5 : decode cX1_init 5 = .ok (.new 11, 3) := by decide +kernel
theorem dX1_init_8 : decode cX1_init 8 = .ok (.dup, 1) := by decide +kernel
theorem dX1_init_9 : decode cX1_init 9 = .ok (.invokespecial 13, 3) := by decide +kernel
theorem dX1_init_12 : decode cX1_init 12 = .ok (.putfield 14, 3) := by decide +kernel
theorem dX1_init_15 : decode cX1_init 15 = .ok (.aload_n 0, 1) := by decide +kernel
theorem dX1_init_16 : decode cX1_init 16 = .ok (.new 18, 3) := by decide +kernel
theorem dX1_init_19 : decode cX1_init 19 = .ok (.dup, 1) := by decide +kernel
theorem dX1_init_20 : decode cX1_init 20 = .ok (.invokespecial 20, 3) := by decide +kernel
theorem dX1_init_23 : decode cX1_init 23 = .ok (.putfield 21, 3) := by decide +kernel
theorem dX1_init_26 : decode cX1_init 26 = .ok (.aload_n 0, 1) := by decide +kernel
theorem dX1_init_27 : decode cX1_init 27 = .ok (.bipush 7, 2) := by decide +kernel
theorem dX1_init_29 : decode cX1_init 29 = .ok (.newarray .int, 2) := by decide +kernel
theorem dX1_init_31 : decode cX1_init 31 = .ok (.putfield 25, 3) := by decide +kernel
theorem dX1_init_34 : decode cX1_init 34 = .ok (.aload_n 0, 1) := by decide +kernel
theorem dX1_init_35 : decode cX1_init 35 = .ok (.bipush 36, 2) := by decide +kernel
theorem dX1_init_37 : decode cX1_init 37 = .ok (.newarray .int, 2) := by decide +kernel
theorem dX1_init_39 : decode cX1_init 39 = .ok (.putfield 29, 3) := by decide +kernel
theorem dX1_init_42 : decode cX1_init 42 = .ok (.aload_n 0, 1) := by decide +kernel
theorem dX1_init_43 : decode cX1_init 43 = .ok (.bipush 36, 2) := by decide +kernel
theorem dX1_init_45 : decode cX1_init 45 = .ok (.newarray .int, 2) := by decide +kernel
theorem dX1_init_47 : decode cX1_init 47 = .ok (.putfield 32, 3) := by decide +kernel
theorem dX1_init_50 : decode cX1_init 50 = .ok (.aload_n 0, 1) := by decide +kernel
theorem dX1_init_51 : decode cX1_init 51 = .ok (.bipush 49, 2) := by decide +kernel
theorem dX1_init_53 : decode cX1_init 53 = .ok (.newarray .int, 2) := by decide +kernel
theorem dX1_init_55 : decode cX1_init 55 = .ok (.putfield 35, 3) := by decide +kernel
theorem dX1_init_58 : decode cX1_init 58 = .ok (.return_, 1) := by decide +kernel
def Fo_init (N nE : Nat) (q : Int) (M : jMem) : Option (Int × jMem) := jchk (0 ≤ q) <| jchk (jn M < nE ∧ jTX[jn M]? = some 10) <| jlt (jnewM jTX M) fun M3 => jchk (0 ≤ (M (-1) 0) ∧ jn M3 + 2 ≤ nE) <| jbv (Ye_init N (jn M3 + 2) ((M (-1) 0)) M3) fun M5 => jchk ((jkb jTX q 1 = true ∧ q < M5 (-1) 0) ∧ 0 ≤ (M (-1) 0)) <| jlt (up M5 q 0 ((M (-1) 0))) fun M6 => jchk (jn M6 < nE ∧ jTX[jn M6]? = some 7) <| jlt (jnewM jTX M6) fun M10 => jchk (0 ≤ (M6 (-1) 0) ∧ jn M10 + 5 ≤ nE) <| jbv (St_init N (jn M10 + 5) ((M6 (-1) 0)) M10) fun M12 => jchk ((jkb jTX q 1 = true ∧ q < M12 (-1) 0) ∧ 0 ≤ (M6 (-1) 0)) <| jlt (up M12 q 1 ((M6 (-1) 0))) fun M13 => jchk (jn M13 < nE ∧ jTX[jn M13]? = some (1000000 * (0 + 1) + 7)) <| jlt (jnewM jTX M13) fun M16 => jchk ((jkb jTX q 1 = true ∧ q < M16 (-1) 0) ∧ 0 ≤ (M13 (-1) 0)) <| jlt (up M16 q 2 ((M13 (-1) 0))) fun M17 => jchk (jn M17 < nE ∧ jTX[jn M17]? = some (1000000 * (0 + 1) + 36)) <| jlt (jnewM jTX M17) fun M20 => jchk ((jkb jTX q 1 = true ∧ q < M20 (-1) 0) ∧ 0 ≤ (M17 (-1) 0)) <| jlt (up M20 q 3 ((M17 (-1) 0))) fun M21 => jchk (jn M21 < nE ∧ jTX[jn M21]? = some (1000000 * (0 + 1) + 36)) <| jlt (jnewM jTX M21) fun M24 => jchk ((jkb jTX q 1 = true ∧ q < M24 (-1) 0) ∧ 0 ≤ (M21 (-1) 0)) <| jlt (up M24 q 4 ((M21 (-1) 0))) fun M25 => jchk (jn M25 < nE ∧ jTX[jn M25]? = some (1000000 * (0 + 1) + 49)) <| jlt (jnewM jTX M25) fun M28 => jchk ((jkb jTX q 1 = true ∧ q < M28 (-1) 0) ∧ 0 ≤ (M25 (-1) 0)) <| jlt (up M28 q 5 ((M25 (-1) 0))) fun M29 => jchk (jn M29 = nE) <| some (0, M29)
theorem c_Fo_init {l : Launch} {g : jG} (N nE : Nat) (q : Int) (M : jMem) : ∀ o, Fo_init N nE q M = some o → jC1 l g jTX yX1_init cX1_init 1 (jn M) nE 2 q M o := by
  refine jMet1 (own := RX1) (em := id) (by decide +kernel) rfl rfl (by decide) (fun K hR => ?_)
  unfold Fo_init
  refine z_chk (fun hq0 => ?_)
  refine y_aload_n (pc := 0) hR 0 dX1_init_0 rfl rfl hq0 ?_
  refine y_obj (pc := 1) hR hq0 jl_RX1_5 jw_obj_i jw_obj_c (by decide) (Nat.le_of_ble_eq_true rfl) dX1_init_1 ?_
  refine y_aload_n (pc := 4) hR 0 dX1_init_4 rfl rfl hq0 ?_
  refine z_chk (fun hc1 => ?_)
  refine y_new (pc := 5) hR (ci := 10) (N := 3) (C := RX10) (Tb := TX10) (ty := tyX10) rfl jin_10 tyX10_ok (by decide) rfl (by decide +kernel) jk_RX1_11 ji_RX10 jz_RX10 hc1 dX1_init_5 (fun M3 => ?_)
  refine y_dup (pc := 8) hR dX1_init_8 (by decide) ?_
  refine z_chk (fun hc4 => ?_)
  refine y_call (pc := 9) hR (st := [(2, (M (-1) 0)), (2, q)]) (n1 := jn M3 + 2) jq_X10_init (List.mem_of_getElem? (i := 10) rfl) (c_Ye_init N (jn M3 + 2) ((M (-1) 0)) M3) hc4.1 ⟨Nat.le_add_right _ _, hc4.2⟩ (by decide) (by decide) (Nat.le_of_ble_eq_true rfl) dX1_init_9 (fun M5 => ?_)
  refine z_chk (fun hc7 => ?_)
  refine y_putr (pc := 12) hR (cq := 2) (j := 0) jpf_RX1_14 (jkb_ok hc7.1.1) hc7.1.2 (by decide) rfl rfl hc7.2 (fun _ => rfl) (fun _ => rfl) dX1_init_12 (fun M6 => ?_)
  refine y_aload_n (pc := 15) hR 0 dX1_init_15 rfl rfl hq0 ?_
  refine z_chk (fun hc8 => ?_)
  refine y_new (pc := 16) hR (ci := 7) (N := 7) (C := RX7) (Tb := TX7) (ty := tyX7) rfl jin_7 tyX7_ok (by decide) rfl (by decide +kernel) jk_RX1_18 ji_RX7 jz_RX7 hc8 dX1_init_16 (fun M10 => ?_)
  refine y_dup (pc := 19) hR dX1_init_19 (by decide) ?_
  refine z_chk (fun hc11 => ?_)
  refine y_call (pc := 20) hR (st := [(2, (M6 (-1) 0)), (2, q)]) (n1 := jn M10 + 5) jq_X7_init (List.mem_of_getElem? (i := 11) rfl) (c_St_init N (jn M10 + 5) ((M6 (-1) 0)) M10) hc11.1 ⟨Nat.le_add_right _ _, hc11.2⟩ (by decide) (by decide) (Nat.le_of_ble_eq_true rfl) dX1_init_20 (fun M12 => ?_)
  refine z_chk (fun hc14 => ?_)
  refine y_putr (pc := 23) hR (cq := 5) (j := 1) jpf_RX1_21 (jkb_ok hc14.1.1) hc14.1.2 (by decide) rfl rfl hc14.2 (fun _ => rfl) (fun _ => rfl) dX1_init_23 (fun M13 => ?_)
  refine y_aload_n (pc := 26) hR 0 dX1_init_26 rfl rfl hq0 ?_
  refine y_bipush (pc := 27) hR dX1_init_27 rfl ?_
  refine z_chk (fun hc15 => ?_)
  refine y_newa0 (pc := 29) hR (len := 7) jar_0 rfl (by decide) hc15 dX1_init_29 (fun M16 => ?_)
  refine z_chk (fun hc18 => ?_)
  refine y_putr (pc := 31) hR (cq := 11) (j := 2) jpf_RX1_25 (jkb_ok hc18.1.1) hc18.1.2 (by decide) rfl rfl hc18.2 (fun _ => rfl) (fun _ => rfl) dX1_init_31 (fun M17 => ?_)
  refine y_aload_n (pc := 34) hR 0 dX1_init_34 rfl rfl hq0 ?_
  refine y_bipush (pc := 35) hR dX1_init_35 rfl ?_
  refine z_chk (fun hc19 => ?_)
  refine y_newa0 (pc := 37) hR (len := 36) jar_0 rfl (by decide) hc19 dX1_init_37 (fun M20 => ?_)
  refine z_chk (fun hc22 => ?_)
  refine y_putr (pc := 39) hR (cq := 12) (j := 3) jpf_RX1_29 (jkb_ok hc22.1.1) hc22.1.2 (by decide) rfl rfl hc22.2 (fun _ => rfl) (fun _ => rfl) dX1_init_39 (fun M21 => ?_)
  refine y_aload_n (pc := 42) hR 0 dX1_init_42 rfl rfl hq0 ?_
  refine y_bipush (pc := 43) hR dX1_init_43 rfl ?_
  refine z_chk (fun hc23 => ?_)
  refine y_newa0 (pc := 45) hR (len := 36) jar_0 rfl (by decide) hc23 dX1_init_45 (fun M24 => ?_)
  refine z_chk (fun hc26 => ?_)
  refine y_putr (pc := 47) hR (cq := 13) (j := 4) jpf_RX1_32 (jkb_ok hc26.1.1) hc26.1.2 (by decide) rfl rfl hc26.2 (fun _ => rfl) (fun _ => rfl) dX1_init_47 (fun M25 => ?_)
  refine y_aload_n (pc := 50) hR 0 dX1_init_50 rfl rfl hq0 ?_
  refine y_bipush (pc := 51) hR dX1_init_51 rfl ?_
  refine z_chk (fun hc27 => ?_)
  refine y_newa0 (pc := 53) hR (len := 49) jar_0 rfl (by decide) hc27 dX1_init_53 (fun M28 => ?_)
  refine z_chk (fun hc30 => ?_)
  refine y_putr (pc := 55) hR (cq := 14) (j := 5) jpf_RX1_35 (jkb_ok hc30.1.1) hc30.1.2 (by decide) rfl rfl hc30.2 (fun _ => rfl) (fun _ => rfl) dX1_init_55 (fun M29 => ?_)
  refine z_chk (fun hc31 => ?_)
  exact y_return (x := 0) (pc := 58) hR dX1_init_58 hc31 rfl
theorem dX11_init_0 : decode cX11_init 0 = .ok (.aload_n 0, 1) := by decide +kernel
theorem dX11_init_1 : decode cX11_init 1 = .ok (.invokespecial 1, 3) := by decide +kernel
theorem dX11_init_4 : decode cX11_init 4 = .ok (.aload_n 0, 1) := by decide +kernel
theorem dX11_init_5 : decode cX11_init 5 = .ok (.sipush 400, 3) := by decide +kernel
theorem dX11_init_8 : decode cX11_init 8 = .ok (.newarray .byte, 2) := by decide +kernel
theorem dX11_init_10 : decode cX11_init 10 = .ok (.putfield 9, 3) := by decide +kernel
theorem dX11_init_13 : decode cX11_init 13 = .ok (.aload_n 0, 1) := by decide +kernel
theorem dX11_init_14 : decode cX11_init 14 = .ok (.new 13, 3) := by decide +kernel
theorem dX11_init_17 : decode cX11_init 17 = .ok (.dup, 1) := by decide +kernel
theorem dX11_init_18 : decode cX11_init 18 = .ok (.invokespecial 15, 3) := by decide +kernel
theorem dX11_init_21 : decode cX11_init 21 = .ok (.putfield 16, 3) := by decide +kernel
theorem dX11_init_24 : decode cX11_init 24 = .ok (.aload_n 0, 1) := by decide +kernel
theorem dX11_init_25 : decode cX11_init 25 = .ok (.new 20, 3) := by decide +kernel
theorem dX11_init_28 : decode cX11_init 28 = .ok (.dup, 1) := by decide +kernel
theorem dX11_init_29 : decode cX11_init 29 = .ok (.invokespecial 22, 3) := by decide +kernel
theorem dX11_init_32 : decode cX11_init 32 = .ok (.putfield 23, 3) := by decide +kernel
theorem dX11_init_35 : decode cX11_init 35 = .ok (.aload_n 0, 1) := by decide +kernel
theorem dX11_init_36 : decode cX11_init 36 = .ok (.new 27, 3) := by decide +kernel
theorem dX11_init_39 : decode cX11_init 39 = .ok (.dup, 1) := by decide +kernel
theorem dX11_init_40 : decode cX11_init 40 = .ok (.invokespecial 29, 3) := by decide +kernel
theorem dX11_init_43 : decode cX11_init 43 = .ok (.putfield 30, 3) := by decide +kernel
theorem dX11_init_46 : decode cX11_init 46 = .ok (.aload_n 0, 1) := by decide +kernel
theorem dX11_init_47 : decode cX11_init 47 = .ok (.bipush 6, 2) := by decide +kernel
theorem dX11_init_49 : decode cX11_init 49 = .ok (.anewarray 34, 3) := by decide +kernel
theorem dX11_init_52 : decode cX11_init 52 = .ok (.putfield 36, 3) := by decide +kernel
theorem dX11_init_55 : decode cX11_init 55 = .ok (.aload_n 0, 1) := by decide +kernel
theorem dX11_init_56 : decode cX11_init 56 = .ok (.new 40, 3) := by decide +kernel
theorem dX11_init_59 : decode cX11_init 59 = .ok (.dup, 1) := by decide +kernel
theorem dX11_init_60 : decode cX11_init 60 = .ok (.invokespecial 42, 3) := by decide +kernel
theorem dX11_init_63 : decode cX11_init 63 = .ok (.putfield 43, 3) := by decide +kernel
theorem dX11_init_66 : decode cX11_init 66 = .ok (.aload_n 0, 1) := by decide +kernel
theorem dX11_init_67 : decode cX11_init 67 = .ok (.new 47, 3) := by decide +kernel
theorem dX11_init_70 : decode cX11_init 70 = .ok (.dup, 1) := by decide +kernel
theorem dX11_init_71 : decode cX11_init 71 = .ok (.invokespecial 49, 3) := by decide +kernel
theorem dX11_init_74 : decode cX11_init 74 = .ok (.putfield 50, 3) := by decide +kernel
theorem dX11_init_77 : decode cX11_init 77 = .ok (.aload_n 0, 1) := by decide +kernel
theorem dX11_init_78 : decode cX11_init 78 = .ok (.iconst 4, 1) := by decide +kernel
theorem dX11_init_79 : decode cX11_init 79 = .ok (.anewarray 40, 3) := by decide +kernel
theorem dX11_init_82 : decode cX11_init 82 = .ok (.putfield 54, 3) := by decide +kernel
theorem dX11_init_85 : decode cX11_init 85 = .ok (.aload_n 0, 1) := by decide +kernel
theorem dX11_init_86 : decode cX11_init 86 = .ok (.new 58, 3) := by decide +kernel
theorem dX11_init_89 : decode cX11_init 89 = .ok (.dup, 1) := by decide +kernel
theorem dX11_init_90 : decode cX11_init 90 = .ok (.invokespecial 60, 3) := by decide +kernel
theorem dX11_init_93 : decode cX11_init 93 = .ok (.putfield 61, 3) := by decide +kernel
theorem dX11_init_96 : decode cX11_init 96 = .ok (.aload_n 0, 1) := by decide +kernel
theorem dX11_init_97 : decode cX11_init 97 = .ok (.new 65, 3) := by decide +kernel
theorem dX11_init_100 : decode cX11_init 100 = .ok (.dup, 1) := by decide +kernel
theorem dX11_init_101 : decode cX11_init 101 = .ok (.invokespecial 67, 3) := by decide +kernel
theorem dX11_init_104 : decode cX11_init 104 = .ok (.putfield 68, 3) := by decide +kernel
theorem dX11_init_107 : decode cX11_init 107 = .ok (.aload_n 0, 1) := by decide +kernel
theorem dX11_init_108 : decode cX11_init 108 = .ok (.new 72, 3) := by decide +kernel
theorem dX11_init_111 : decode cX11_init 111 = .ok (.dup, 1) := by decide +kernel
theorem dX11_init_112 : decode cX11_init 112 = .ok (.invokespecial 74, 3) := by decide +kernel
theorem dX11_init_115 : decode cX11_init 115 = .ok (.putfield 75, 3) := by decide +kernel
theorem dX11_init_118 : decode cX11_init 118 = .ok (.iconst 0, 1) := by decide +kernel
theorem dX11_init_119 : decode cX11_init 119 = .ok (.istore_n 1, 1) := by decide +kernel
theorem dX11_init_120 : decode cX11_init 120 = .ok (.iload_n 1, 1) := by decide +kernel
theorem dX11_init_121 : decode cX11_init 121 = .ok (.bipush 6, 2) := by decide +kernel
theorem dX11_init_123 : decode cX11_init 123 = .ok (.if_icmp .ge 22, 3) := by decide +kernel
theorem dX11_init_126 : decode cX11_init 126 = .ok (.aload_n 0, 1) := by decide +kernel
theorem dX11_init_127 : decode cX11_init 127 = .ok (.getfield 36, 3) := by decide +kernel
theorem dX11_init_130 : decode cX11_init 130 = .ok (.iload_n 1, 1) := by decide +kernel
theorem dX11_init_131 : decode cX11_init 131 = .ok (.new 34, 3) := by decide +kernel
theorem dX11_init_134 : decode cX11_init 134 = .ok (.dup, 1) := by decide +kernel
theorem dX11_init_135 : decode cX11_init 135 = .ok (.invokespecial 79, 3) := by decide +kernel
theorem dX11_init_138 : decode cX11_init 138 = .ok (.aastore, 1) := by decide +kernel
theorem dX11_init_139 : decode cX11_init 139 = .ok (.iinc 1 1, 3) := by decide +kernel
theorem dX11_init_142 : decode cX11_init 142 = .ok (.goto (-22), 3) := by decide +kernel
theorem dX11_init_145 : decode cX11_init 145 = .ok (.iconst 0, 1) := by decide +kernel
theorem dX11_init_146 : decode cX11_init 146 = .ok (.istore_n 1, 1) := by decide +kernel
theorem dX11_init_147 : decode cX11_init 147 = .ok (.iload_n 1, 1) := by decide +kernel
theorem dX11_init_148 : decode cX11_init 148 = .ok (.iconst 4, 1) := by decide +kernel
theorem dX11_init_149 : decode cX11_init 149 = .ok (.if_icmp .ge 22, 3) := by decide +kernel
theorem dX11_init_152 : decode cX11_init 152 = .ok (.aload_n 0, 1) := by decide +kernel
theorem dX11_init_153 : decode cX11_init 153 = .ok (.getfield 54, 3) := by decide +kernel
theorem dX11_init_156 : decode cX11_init 156 = .ok (.iload_n 1, 1) := by decide +kernel
theorem dX11_init_157 : decode cX11_init 157 = .ok (.new 40, 3) := by decide +kernel
theorem dX11_init_160 : decode cX11_init 160 = .ok (.dup, 1) := by decide +kernel
theorem dX11_init_161 : decode cX11_init 161 = .ok (.invokespecial 42, 3) := by decide +kernel
theorem dX11_init_164 : decode cX11_init 164 = .ok (.aastore, 1) := by decide +kernel
theorem dX11_init_165 : decode cX11_init 165 = .ok (.iinc 1 1, 3) := by decide +kernel
theorem dX11_init_168 : decode cX11_init 168 = .ok (.goto (-21), 3) := by decide +kernel
theorem dX11_init_171 : decode cX11_init 171 = .ok (.return_, 1) := by decide +kernel
def x_init_L147 (N : Nat) (nE : Nat) (q : Int) (h147 : (Int × jMem) → Option (Int × jMem)) : Int × jMem → Option (Int × jMem)
  | (x71, M72) => (if x71 < 4 then jchk (jkb jTX q 11 = true ∧ q < M72 (-1) 0) <| jchk (jn M72 < nE ∧ jTX[jn M72]? = some 9) <| jlt (jnewM jTX M72) fun M77 => jchk (0 ≤ (M72 (-1) 0) ∧ jn M77 + 16 ≤ nE) <| jbv (Wo_init N (jn M77 + 16) ((M72 (-1) 0)) M77) fun M79 => jchk (((jab jTX (M72 q 9) 6 4 = true ∧ (M72 q 9) < M79 (-1) 0) ∧ (jkb jTX (M72 (-1) 0) 9 = true ∧ (M72 (-1) 0) < M79 (-1) 0)) ∧ (0 ≤ x71 ∧ x71 < 4)) <| jlt (up M79 ((M72 q 9)) x71 ((M72 (-1) 0))) fun M81 => h147 ((w32 (x71 + 1)), M81) else jchk (jn M72 = nE) <| some (0, M72))
def x_init_L120 (N : Nat) (nE : Nat) (q : Int) (h120 : (Int × jMem) → Option (Int × jMem)) : Int × jMem → Option (Int × jMem)
  | (x69, M70) => (if x69 < 6 then jchk (jkb jTX q 11 = true ∧ q < M70 (-1) 0) <| jchk (jn M70 < nE ∧ jTX[jn M70]? = some 5) <| jlt (jnewM jTX M70) fun M85 => jchk (0 ≤ (M70 (-1) 0) ∧ jn M85 + 5 ≤ nE) <| jbv (Ru_init N (jn M85 + 5) ((M70 (-1) 0)) M85) fun M87 => jchk (((jab jTX (M70 q 5) 5 6 = true ∧ (M70 q 5) < M87 (-1) 0) ∧ (jkb jTX (M70 (-1) 0) 5 = true ∧ (M70 (-1) 0) < M87 (-1) 0)) ∧ (0 ≤ x69 ∧ x69 < 6)) <| jlt (up M87 ((M70 q 5)) x69 ((M70 (-1) 0))) fun M89 => h120 ((w32 (x69 + 1)), M89) else jfix N (x_init_L147 N nE q) (0, M70))
def x_init (N nE : Nat) (q : Int) (M : jMem) : Option (Int × jMem) := jchk (0 ≤ q) <| jchk (jn M < nE ∧ jTX[jn M]? = some (1000000 * (1 + 1) + 400)) <| jlt (jnewM jTX M) fun M2 => jchk ((jkb jTX q 11 = true ∧ q < M2 (-1) 0) ∧ 0 ≤ (M (-1) 0)) <| jlt (up M2 q 0 ((M (-1) 0))) fun M3 => jchk (jn M3 < nE ∧ jTX[jn M3]? = some 8) <| jlt (jnewM jTX M3) fun M7 => jchk (0 ≤ (M3 (-1) 0) ∧ jn M7 + 3 ≤ nE) <| jbv (To_init N (jn M7 + 3) ((M3 (-1) 0)) M7) fun M9 => jchk ((jkb jTX q 11 = true ∧ q < M9 (-1) 0) ∧ 0 ≤ (M3 (-1) 0)) <| jlt (up M9 q 2 ((M3 (-1) 0))) fun M10 => jchk (jn M10 < nE ∧ jTX[jn M10]? = some 4) <| jlt (jnewM jTX M10) fun M14 => jchk (0 ≤ (M10 (-1) 0) ∧ jn M14 + 5 ≤ nE) <| jbv (Pa_init N (jn M14 + 5) ((M10 (-1) 0)) M14) fun M16 => jchk ((jkb jTX q 11 = true ∧ q < M16 (-1) 0) ∧ 0 ≤ (M10 (-1) 0)) <| jlt (up M16 q 3 ((M10 (-1) 0))) fun M17 => jchk (jn M17 < nE ∧ jTX[jn M17]? = some 6) <| jlt (jnewM jTX M17) fun M21 => jchk (0 ≤ (M17 (-1) 0) ∧ jn M21 + 0 ≤ nE) <| jbv (Rr_init N (jn M21 + 0) ((M17 (-1) 0)) M21) fun M23 => jchk ((jkb jTX q 11 = true ∧ q < M23 (-1) 0) ∧ 0 ≤ (M17 (-1) 0)) <| jlt (up M23 q 4 ((M17 (-1) 0))) fun M24 => jchk (jn M24 < nE ∧ jTX[jn M24]? = some (1000000 * (5 + 1) + 6)) <| jlt (jnewM jTX M24) fun M27 => jchk ((jkb jTX q 11 = true ∧ q < M27 (-1) 0) ∧ 0 ≤ (M24 (-1) 0)) <| jlt (up M27 q 5 ((M24 (-1) 0))) fun M28 => jchk (jn M28 < nE ∧ jTX[jn M28]? = some 9) <| jlt (jnewM jTX M28) fun M32 => jchk (0 ≤ (M28 (-1) 0) ∧ jn M32 + 16 ≤ nE) <| jbv (Wo_init N (jn M32 + 16) ((M28 (-1) 0)) M32) fun M34 => jchk ((jkb jTX q 11 = true ∧ q < M34 (-1) 0) ∧ 0 ≤ (M28 (-1) 0)) <| jlt (up M34 q 7 ((M28 (-1) 0))) fun M35 => jchk (jn M35 < nE ∧ jTX[jn M35]? = some 0) <| jlt (jnewM jTX M35) fun M39 => jchk (0 ≤ (M35 (-1) 0) ∧ jn M39 + 121 ≤ nE) <| jbv (Ac_init N (jn M39 + 121) ((M35 (-1) 0)) M39) fun M41 => jchk ((jkb jTX q 11 = true ∧ q < M41 (-1) 0) ∧ 0 ≤ (M35 (-1) 0)) <| jlt (up M41 q 8 ((M35 (-1) 0))) fun M42 => jchk (jn M42 < nE ∧ jTX[jn M42]? = some (1000000 * (6 + 1) + 4)) <| jlt (jnewM jTX M42) fun M45 => jchk ((jkb jTX q 11 = true ∧ q < M45 (-1) 0) ∧ 0 ≤ (M42 (-1) 0)) <| jlt (up M45 q 9 ((M42 (-1) 0))) fun M46 => jchk (jn M46 < nE ∧ jTX[jn M46]? = some 10) <| jlt (jnewM jTX M46) fun M50 => jchk (0 ≤ (M46 (-1) 0) ∧ jn M50 + 2 ≤ nE) <| jbv (Ye_init N (jn M50 + 2) ((M46 (-1) 0)) M50) fun M52 => jchk ((jkb jTX q 11 = true ∧ q < M52 (-1) 0) ∧ 0 ≤ (M46 (-1) 0)) <| jlt (up M52 q 10 ((M46 (-1) 0))) fun M53 => jchk (jn M53 < nE ∧ jTX[jn M53]? = some 1) <| jlt (jnewM jTX M53) fun M57 => jchk (0 ≤ (M53 (-1) 0) ∧ jn M57 + 13 ≤ nE) <| jbv (Fo_init N (jn M57 + 13) ((M53 (-1) 0)) M57) fun M59 => jchk ((jkb jTX q 11 = true ∧ q < M59 (-1) 0) ∧ 0 ≤ (M53 (-1) 0)) <| jlt (up M59 q 11 ((M53 (-1) 0))) fun M60 => jchk (jn M60 < nE ∧ jTX[jn M60]? = some 2) <| jlt (jnewM jTX M60) fun M64 => jchk (0 ≤ (M60 (-1) 0) ∧ jn M64 + 5 ≤ nE) <| jbv (Li_init N (jn M64 + 5) ((M60 (-1) 0)) M64) fun M66 => jchk ((jkb jTX q 11 = true ∧ q < M66 (-1) 0) ∧ 0 ≤ (M60 (-1) 0)) <| jlt (up M66 q 12 ((M60 (-1) 0))) fun M67 => jfix N (x_init_L120 N nE q) (0, M67)
theorem c_x_init {l : Launch} {g : jG} (N nE : Nat) (q : Int) (M : jMem) : ∀ o, x_init N nE q M = some o → jC1 l g jTX yX11_init cX11_init 2 (jn M) nE 3 q M o := by
  refine jMet1 (own := RX11) (em := id) (by decide +kernel) rfl rfl (by decide) (fun K hR => ?_)
  unfold x_init
  refine z_chk (fun hq0 => ?_)
  refine y_aload_n (pc := 0) hR 0 dX11_init_0 rfl rfl hq0 ?_
  refine y_obj (pc := 1) hR hq0 jl_RX11_1 jw_obj_i jw_obj_c (by decide) (Nat.le_of_ble_eq_true rfl) dX11_init_1 ?_
  refine y_aload_n (pc := 4) hR 0 dX11_init_4 rfl rfl hq0 ?_
  refine y_sipush (pc := 5) hR dX11_init_5 rfl ?_
  refine z_chk (fun hc1 => ?_)
  refine y_newa1 (pc := 8) hR (len := 400) jar_1 rfl (by decide) hc1 dX11_init_8 (fun M2 => ?_)
  refine z_chk (fun hc4 => ?_)
  refine y_putr (pc := 10) hR (cq := 2) (j := 0) jpf_RX11_9 (jkb_ok hc4.1.1) hc4.1.2 (by decide) rfl rfl hc4.2 (fun _ => rfl) (fun _ => rfl) dX11_init_10 (fun M3 => ?_)
  refine y_aload_n (pc := 13) hR 0 dX11_init_13 rfl rfl hq0 ?_
  refine z_chk (fun hc5 => ?_)
  refine y_new (pc := 14) hR (ci := 8) (N := 5) (C := RX8) (Tb := TX8) (ty := tyX8) rfl jin_8 tyX8_ok (by decide) rfl (by decide +kernel) jk_RX11_13 ji_RX8 jz_RX8 hc5 dX11_init_14 (fun M7 => ?_)
  refine y_dup (pc := 17) hR dX11_init_17 (by decide) ?_
  refine z_chk (fun hc8 => ?_)
  refine y_call (pc := 18) hR (st := [(2, (M3 (-1) 0)), (2, q)]) (n1 := jn M7 + 3) jq_X8_init (List.mem_of_getElem? (i := 0) rfl) (c_To_init N (jn M7 + 3) ((M3 (-1) 0)) M7) hc8.1 ⟨Nat.le_add_right _ _, hc8.2⟩ (by decide) (by decide) (Nat.le_of_ble_eq_true rfl) dX11_init_18 (fun M9 => ?_)
  refine z_chk (fun hc11 => ?_)
  refine y_putr (pc := 21) hR (cq := 3) (j := 2) jpf_RX11_16 (jkb_ok hc11.1.1) hc11.1.2 (by decide) rfl rfl hc11.2 (fun _ => rfl) (fun _ => rfl) dX11_init_21 (fun M10 => ?_)
  refine y_aload_n (pc := 24) hR 0 dX11_init_24 rfl rfl hq0 ?_
  refine z_chk (fun hc12 => ?_)
  refine y_new (pc := 25) hR (ci := 4) (N := 7) (C := RX4) (Tb := TX4) (ty := tyX4) rfl jin_4 tyX4_ok (by decide) rfl (by decide +kernel) jk_RX11_20 ji_RX4 jz_RX4 hc12 dX11_init_25 (fun M14 => ?_)
  refine y_dup (pc := 28) hR dX11_init_28 (by decide) ?_
  refine z_chk (fun hc15 => ?_)
  refine y_call (pc := 29) hR (st := [(2, (M10 (-1) 0)), (2, q)]) (n1 := jn M14 + 5) jq_X4_init (List.mem_of_getElem? (i := 1) rfl) (c_Pa_init N (jn M14 + 5) ((M10 (-1) 0)) M14) hc15.1 ⟨Nat.le_add_right _ _, hc15.2⟩ (by decide) (by decide) (Nat.le_of_ble_eq_true rfl) dX11_init_29 (fun M16 => ?_)
  refine z_chk (fun hc18 => ?_)
  refine y_putr (pc := 32) hR (cq := 7) (j := 3) jpf_RX11_23 (jkb_ok hc18.1.1) hc18.1.2 (by decide) rfl rfl hc18.2 (fun _ => rfl) (fun _ => rfl) dX11_init_32 (fun M17 => ?_)
  refine y_aload_n (pc := 35) hR 0 dX11_init_35 rfl rfl hq0 ?_
  refine z_chk (fun hc19 => ?_)
  refine y_new (pc := 36) hR (ci := 6) (N := 3) (C := RX6) (Tb := TX6) (ty := tyX6) rfl jin_6 tyX6_ok (by decide) rfl (by decide +kernel) jk_RX11_27 ji_RX6 jz_RX6 hc19 dX11_init_36 (fun M21 => ?_)
  refine y_dup (pc := 39) hR dX11_init_39 (by decide) ?_
  refine z_chk (fun hc22 => ?_)
  refine y_call (pc := 40) hR (st := [(2, (M17 (-1) 0)), (2, q)]) (n1 := jn M21 + 0) jq_X6_init (List.mem_of_getElem? (i := 2) rfl) (c_Rr_init N (jn M21 + 0) ((M17 (-1) 0)) M21) hc22.1 ⟨Nat.le_add_right _ _, hc22.2⟩ (by decide) (by decide) (Nat.le_of_ble_eq_true rfl) dX11_init_40 (fun M23 => ?_)
  refine z_chk (fun hc25 => ?_)
  refine y_putr (pc := 43) hR (cq := 13) (j := 4) jpf_RX11_30 (jkb_ok hc25.1.1) hc25.1.2 (by decide) rfl rfl hc25.2 (fun _ => rfl) (fun _ => rfl) dX11_init_43 (fun M24 => ?_)
  refine y_aload_n (pc := 46) hR 0 dX11_init_46 rfl rfl hq0 ?_
  refine y_bipush (pc := 47) hR dX11_init_47 rfl ?_
  refine z_chk (fun hc26 => ?_)
  refine y_newq5 (pc := 49) hR (len := 6) jk_RX11_34 rfl (by decide) hc26 dX11_init_49 (fun M27 => ?_)
  refine z_chk (fun hc29 => ?_)
  refine y_putr (pc := 52) hR (cq := 14) (j := 5) jpf_RX11_36 (jkb_ok hc29.1.1) hc29.1.2 (by decide) rfl rfl hc29.2 (fun _ => rfl) (fun _ => rfl) dX11_init_52 (fun M28 => ?_)
  refine y_aload_n (pc := 55) hR 0 dX11_init_55 rfl rfl hq0 ?_
  refine z_chk (fun hc30 => ?_)
  refine y_new (pc := 56) hR (ci := 9) (N := 6) (C := RX9) (Tb := TX9) (ty := tyX9) rfl jin_9 tyX9_ok (by decide) rfl (by decide +kernel) jk_RX11_40 ji_RX9 jz_RX9 hc30 dX11_init_56 (fun M32 => ?_)
  refine y_dup (pc := 59) hR dX11_init_59 (by decide) ?_
  refine z_chk (fun hc33 => ?_)
  refine y_call (pc := 60) hR (st := [(2, (M28 (-1) 0)), (2, q)]) (n1 := jn M32 + 16) jq_X9_init (List.mem_of_getElem? (i := 3) rfl) (c_Wo_init N (jn M32 + 16) ((M28 (-1) 0)) M32) hc33.1 ⟨Nat.le_add_right _ _, hc33.2⟩ (by decide) (by decide) (Nat.le_of_ble_eq_true rfl) dX11_init_60 (fun M34 => ?_)
  refine z_chk (fun hc36 => ?_)
  refine y_putr (pc := 63) hR (cq := 15) (j := 7) jpf_RX11_43 (jkb_ok hc36.1.1) hc36.1.2 (by decide) rfl rfl hc36.2 (fun _ => rfl) (fun _ => rfl) dX11_init_63 (fun M35 => ?_)
  refine y_aload_n (pc := 66) hR 0 dX11_init_66 rfl rfl hq0 ?_
  refine z_chk (fun hc37 => ?_)
  refine y_new (pc := 67) hR (ci := 0) (N := 3) (C := RX0) (Tb := TX0) (ty := tyX0) rfl jin_0 tyX0_ok (by decide) rfl (by decide +kernel) jk_RX11_47 ji_RX0 jz_RX0 hc37 dX11_init_67 (fun M39 => ?_)
  refine y_dup (pc := 70) hR dX11_init_70 (by decide) ?_
  refine z_chk (fun hc40 => ?_)
  refine y_callm (pc := 71) hR (st := [(2, (M35 (-1) 0)), (2, q)]) (n1 := jn M39 + 121) jq_X0_init jl_RX11_49 (c_Ac_init N (jn M39 + 121) ((M35 (-1) 0)) M39) hc40.1 ⟨Nat.le_add_right _ _, hc40.2⟩ (by decide) (by decide) (Nat.le_of_ble_eq_true rfl) dX11_init_71 (fun M41 => ?_)
  refine z_chk (fun hc43 => ?_)
  refine y_putr (pc := 74) hR (cq := 32) (j := 8) jpf_RX11_50 (jkb_ok hc43.1.1) hc43.1.2 (by decide) rfl rfl hc43.2 (fun _ => rfl) (fun _ => rfl) dX11_init_74 (fun M42 => ?_)
  refine y_aload_n (pc := 77) hR 0 dX11_init_77 rfl rfl hq0 ?_
  refine y_iconst (pc := 78) hR dX11_init_78 rfl ?_
  refine z_chk (fun hc44 => ?_)
  refine y_newq6 (pc := 79) hR (len := 4) jk_RX11_40 rfl (by decide) hc44 dX11_init_79 (fun M45 => ?_)
  refine z_chk (fun hc47 => ?_)
  refine y_putr (pc := 82) hR (cq := 154) (j := 9) jpf_RX11_54 (jkb_ok hc47.1.1) hc47.1.2 (by decide) rfl rfl hc47.2 (fun _ => rfl) (fun _ => rfl) dX11_init_82 (fun M46 => ?_)
  refine y_aload_n (pc := 85) hR 0 dX11_init_85 rfl rfl hq0 ?_
  refine z_chk (fun hc48 => ?_)
  refine y_new (pc := 86) hR (ci := 10) (N := 3) (C := RX10) (Tb := TX10) (ty := tyX10) rfl jin_10 tyX10_ok (by decide) rfl (by decide +kernel) jk_RX11_58 ji_RX10 jz_RX10 hc48 dX11_init_86 (fun M50 => ?_)
  refine y_dup (pc := 89) hR dX11_init_89 (by decide) ?_
  refine z_chk (fun hc51 => ?_)
  refine y_call (pc := 90) hR (st := [(2, (M46 (-1) 0)), (2, q)]) (n1 := jn M50 + 2) jq_X10_init (List.mem_of_getElem? (i := 8) rfl) (c_Ye_init N (jn M50 + 2) ((M46 (-1) 0)) M50) hc51.1 ⟨Nat.le_add_right _ _, hc51.2⟩ (by decide) (by decide) (Nat.le_of_ble_eq_true rfl) dX11_init_90 (fun M52 => ?_)
  refine z_chk (fun hc54 => ?_)
  refine y_putr (pc := 93) hR (cq := 155) (j := 10) jpf_RX11_61 (jkb_ok hc54.1.1) hc54.1.2 (by decide) rfl rfl hc54.2 (fun _ => rfl) (fun _ => rfl) dX11_init_93 (fun M53 => ?_)
  refine y_aload_n (pc := 96) hR 0 dX11_init_96 rfl rfl hq0 ?_
  refine z_chk (fun hc55 => ?_)
  refine y_new (pc := 97) hR (ci := 1) (N := 8) (C := RX1) (Tb := TX1) (ty := tyX1) rfl jin_1 tyX1_ok (by decide) rfl (by decide +kernel) jk_RX11_65 ji_RX1 jz_RX1 hc55 dX11_init_97 (fun M57 => ?_)
  refine y_dup (pc := 100) hR dX11_init_100 (by decide) ?_
  refine z_chk (fun hc58 => ?_)
  refine y_call (pc := 101) hR (st := [(2, (M53 (-1) 0)), (2, q)]) (n1 := jn M57 + 13) jq_X1_init (List.mem_of_getElem? (i := 9) rfl) (c_Fo_init N (jn M57 + 13) ((M53 (-1) 0)) M57) hc58.1 ⟨Nat.le_add_right _ _, hc58.2⟩ (by decide) (by decide) (Nat.le_of_ble_eq_true rfl) dX11_init_101 (fun M59 => ?_)
  refine z_chk (fun hc61 => ?_)
  refine y_putr (pc := 104) hR (cq := 158) (j := 11) jpf_RX11_68 (jkb_ok hc61.1.1) hc61.1.2 (by decide) rfl rfl hc61.2 (fun _ => rfl) (fun _ => rfl) dX11_init_104 (fun M60 => ?_)
  refine y_aload_n (pc := 107) hR 0 dX11_init_107 rfl rfl hq0 ?_
  refine z_chk (fun hc62 => ?_)
  refine y_new (pc := 108) hR (ci := 2) (N := 8) (C := RX2) (Tb := TX2) (ty := tyX2) rfl jin_2 tyX2_ok (by decide) rfl (by decide +kernel) jk_RX11_72 ji_RX2 jz_RX2 hc62 dX11_init_108 (fun M64 => ?_)
  refine y_dup (pc := 111) hR dX11_init_111 (by decide) ?_
  refine z_chk (fun hc65 => ?_)
  refine y_call (pc := 112) hR (st := [(2, (M60 (-1) 0)), (2, q)]) (n1 := jn M64 + 5) jq_X2_init (List.mem_of_getElem? (i := 12) rfl) (c_Li_init N (jn M64 + 5) ((M60 (-1) 0)) M64) hc65.1 ⟨Nat.le_add_right _ _, hc65.2⟩ (by decide) (by decide) (Nat.le_of_ble_eq_true rfl) dX11_init_112 (fun M66 => ?_)
  refine z_chk (fun hc68 => ?_)
  refine y_putr (pc := 115) hR (cq := 172) (j := 12) jpf_RX11_75 (jkb_ok hc68.1.1) hc68.1.2 (by decide) rfl rfl hc68.2 (fun _ => rfl) (fun _ => rfl) dX11_init_115 (fun M67 => ?_)
  refine y_iconst (pc := 118) hR dX11_init_118 rfl ?_
  refine y_istore_n (pc := 119) hR (lv' := [(1, 0, 0), (0, 2, q)]) dX11_init_119 rfl (by decide) rfl ?_
  refine y_pick (pc := 120) (lv' := [(0, 2, q), (1, 0, 0)]) hR [1, 0] rfl ?_
  refine z_fix (σ := Int × jMem) (lv := fun s => [(0, 2, q), (1, 0, s.1)]) (st := fun _ => []) (M := fun s => s.2) (fun h120 hh120 => ?_) N (0, M67)
  rintro ⟨x69, M70⟩
  show jZ K id 120 [(0, 2, q), (1, 0, x69)] [] M70 _
  unfold x_init_L120
  refine y_iload_n (pc := 120) hR 1 dX11_init_120 rfl rfl ?_
  refine y_bipush (pc := 121) hR dX11_init_121 rfl ?_
  refine y_icmpge (pc := 123) (tgt := 145) hR dX11_init_123 (by decide) ?_ ?_
  · refine y_iconst (pc := 145) hR dX11_init_145 rfl ?_
    refine y_istore_n (pc := 146) hR (lv' := [(1, 0, 0), (0, 2, q)]) dX11_init_146 rfl (by decide) rfl ?_
    refine y_pick (pc := 147) (lv' := [(0, 2, q), (1, 0, 0)]) hR [1, 0] rfl ?_
    refine z_fix (σ := Int × jMem) (lv := fun s => [(0, 2, q), (1, 0, s.1)]) (st := fun _ => []) (M := fun s => s.2) (fun h147 hh147 => ?_) N (0, M70)
    rintro ⟨x71, M72⟩
    show jZ K id 147 [(0, 2, q), (1, 0, x71)] [] M72 _
    unfold x_init_L147
    refine y_iload_n (pc := 147) hR 1 dX11_init_147 rfl rfl ?_
    refine y_iconst (pc := 148) hR dX11_init_148 rfl ?_
    refine y_icmpge (pc := 149) (tgt := 171) hR dX11_init_149 (by decide) ?_ ?_
    · refine z_chk (fun hc73 => ?_)
      exact y_return (x := 0) (pc := 171) hR dX11_init_171 hc73 rfl
    · refine y_aload_n (pc := 152) hR 0 dX11_init_152 rfl rfl hq0 ?_
      refine z_chk (fun hc74 => ?_)
      refine y_getr (pc := 153) hR (cq := 154) (j := 9) jf_RX11_54 (jkb_ok hc74.1) hc74.2 (by decide) rfl rfl dX11_init_153 ?_
      refine y_iload_n (pc := 156) hR 1 dX11_init_156 rfl rfl ?_
      refine z_chk (fun hc75 => ?_)
      refine y_new (pc := 157) hR (ci := 9) (N := 6) (C := RX9) (Tb := TX9) (ty := tyX9) rfl jin_9 tyX9_ok (by decide) rfl (by decide +kernel) jk_RX11_40 ji_RX9 jz_RX9 hc75 dX11_init_157 (fun M77 => ?_)
      refine y_dup (pc := 160) hR dX11_init_160 (by decide) ?_
      refine z_chk (fun hc78 => ?_)
      refine y_call (pc := 161) hR (st := [(2, (M72 (-1) 0)), (0, x71), (2, (M72 q 9))]) (n1 := jn M77 + 16) jq_X9_init (List.mem_of_getElem? (i := 3) rfl) (c_Wo_init N (jn M77 + 16) ((M72 (-1) 0)) M77) hc78.1 ⟨Nat.le_add_right _ _, hc78.2⟩ (by decide) (by decide) (Nat.le_of_ble_eq_true rfl) dX11_init_161 (fun M79 => ?_)
      refine z_chk (fun hc80 => ?_)
      refine y_aast (pc := 164) hR (C := RX9) (r := (RX9, TX9, 6)) (n := 4) (by decide : 5 ≤ 6) rfl (jab_ok hc80.1.1.1) hc80.1.1.2 (jkb_ok hc80.1.2.1) hc80.1.2.2 (by decide) rfl hc80.2.1 hc80.2.2 dX11_init_164 (fun M81 => ?_)
      refine y_iinc (pc := 165) hR (j := 1) (lv' := [(1, 0, (w32 (x71 + 1))), (0, 2, q)]) dX11_init_165 rfl (by decide) rfl ?_
      refine y_goto (pc := 168) (tgt := 147) hR dX11_init_168 (by decide) ?_
      refine y_pick (pc := 147) (lv' := [(0, 2, q), (1, 0, (w32 (x71 + 1)))]) hR [1, 0] rfl ?_
      exact hh147 ((w32 (x71 + 1)), M81)
  · refine y_aload_n (pc := 126) hR 0 dX11_init_126 rfl rfl hq0 ?_
    refine z_chk (fun hc82 => ?_)
    refine y_getr (pc := 127) hR (cq := 14) (j := 5) jf_RX11_36 (jkb_ok hc82.1) hc82.2 (by decide) rfl rfl dX11_init_127 ?_
    refine y_iload_n (pc := 130) hR 1 dX11_init_130 rfl rfl ?_
    refine z_chk (fun hc83 => ?_)
    refine y_new (pc := 131) hR (ci := 5) (N := 7) (C := RX5) (Tb := TX5) (ty := tyX5) rfl jin_5 tyX5_ok (by decide) rfl (by decide +kernel) jk_RX11_34 ji_RX5 jz_RX5 hc83 dX11_init_131 (fun M85 => ?_)
    refine y_dup (pc := 134) hR dX11_init_134 (by decide) ?_
    refine z_chk (fun hc86 => ?_)
    refine y_call (pc := 135) hR (st := [(2, (M70 (-1) 0)), (0, x69), (2, (M70 q 5))]) (n1 := jn M85 + 5) jq_X5_init (List.mem_of_getElem? (i := 13) rfl) (c_Ru_init N (jn M85 + 5) ((M70 (-1) 0)) M85) hc86.1 ⟨Nat.le_add_right _ _, hc86.2⟩ (by decide) (by decide) (Nat.le_of_ble_eq_true rfl) dX11_init_135 (fun M87 => ?_)
    refine z_chk (fun hc88 => ?_)
    refine y_aast (pc := 138) hR (C := RX5) (r := (RX5, TX5, 7)) (n := 6) (by decide : 5 ≤ 5) rfl (jab_ok hc88.1.1.1) hc88.1.1.2 (jkb_ok hc88.1.2.1) hc88.1.2.2 (by decide) rfl hc88.2.1 hc88.2.2 dX11_init_138 (fun M89 => ?_)
    refine y_iinc (pc := 139) hR (j := 1) (lv' := [(1, 0, (w32 (x69 + 1))), (0, 2, q)]) dX11_init_139 rfl (by decide) rfl ?_
    refine y_goto (pc := 142) (tgt := 120) hR dX11_init_142 (by decide) ?_
    refine y_pick (pc := 120) (lv' := [(0, 2, q), (1, 0, (w32 (x69 + 1)))]) hR [1, 0] rfl ?_
    exact hh120 ((w32 (x69 + 1)), M89)
theorem dX12_init_0 : decode cX12_init 0 = .ok (.aload_n 0, 1) := by decide +kernel
theorem dX12_init_1 : decode cX12_init 1 = .ok (.invokespecial 1, 3) := by decide +kernel
theorem dX12_init_4 : decode cX12_init 4 = .ok (.aload_n 0, 1) := by decide +kernel
theorem dX12_init_5 : decode cX12_init 5 = .ok (.sipush 400, 3) := by decide +kernel
theorem dX12_init_8 : decode cX12_init 8 = .ok (.newarray .byte, 2) := by decide +kernel
theorem dX12_init_10 : decode cX12_init 10 = .ok (.putfield 7, 3) := by decide +kernel
theorem dX12_init_13 : decode cX12_init 13 = .ok (.aload_n 0, 1) := by decide +kernel
theorem dX12_init_14 : decode cX12_init 14 = .ok (.sipush 2400, 3) := by decide +kernel
theorem dX12_init_17 : decode cX12_init 17 = .ok (.newarray .int, 2) := by decide +kernel
theorem dX12_init_19 : decode cX12_init 19 = .ok (.putfield 13, 3) := by decide +kernel
theorem dX12_init_22 : decode cX12_init 22 = .ok (.aload_n 0, 1) := by decide +kernel
theorem dX12_init_23 : decode cX12_init 23 = .ok (.bipush 7, 2) := by decide +kernel
theorem dX12_init_25 : decode cX12_init 25 = .ok (.newarray .int, 2) := by decide +kernel
theorem dX12_init_27 : decode cX12_init 27 = .ok (.putfield 17, 3) := by decide +kernel
theorem dX12_init_30 : decode cX12_init 30 = .ok (.aload_n 0, 1) := by decide +kernel
theorem dX12_init_31 : decode cX12_init 31 = .ok (.sipush 288, 3) := by decide +kernel
theorem dX12_init_34 : decode cX12_init 34 = .ok (.newarray .int, 2) := by decide +kernel
theorem dX12_init_36 : decode cX12_init 36 = .ok (.putfield 20, 3) := by decide +kernel
theorem dX12_init_39 : decode cX12_init 39 = .ok (.aload_n 0, 1) := by decide +kernel
theorem dX12_init_40 : decode cX12_init 40 = .ok (.bipush 6, 2) := by decide +kernel
theorem dX12_init_42 : decode cX12_init 42 = .ok (.newarray .int, 2) := by decide +kernel
theorem dX12_init_44 : decode cX12_init 44 = .ok (.putfield 23, 3) := by decide +kernel
theorem dX12_init_47 : decode cX12_init 47 = .ok (.aload_n 0, 1) := by decide +kernel
theorem dX12_init_48 : decode cX12_init 48 = .ok (.bipush 81, 2) := by decide +kernel
theorem dX12_init_50 : decode cX12_init 50 = .ok (.newarray .int, 2) := by decide +kernel
theorem dX12_init_52 : decode cX12_init 52 = .ok (.putfield 26, 3) := by decide +kernel
theorem dX12_init_55 : decode cX12_init 55 = .ok (.aload_n 0, 1) := by decide +kernel
theorem dX12_init_56 : decode cX12_init 56 = .ok (.sipush 400, 3) := by decide +kernel
theorem dX12_init_59 : decode cX12_init 59 = .ok (.newarray .int, 2) := by decide +kernel
theorem dX12_init_61 : decode cX12_init 61 = .ok (.putfield 29, 3) := by decide +kernel
theorem dX12_init_64 : decode cX12_init 64 = .ok (.aload_n 0, 1) := by decide +kernel
theorem dX12_init_65 : decode cX12_init 65 = .ok (.bipush 64, 2) := by decide +kernel
theorem dX12_init_67 : decode cX12_init 67 = .ok (.newarray .long, 2) := by decide +kernel
theorem dX12_init_69 : decode cX12_init 69 = .ok (.putfield 32, 3) := by decide +kernel
theorem dX12_init_72 : decode cX12_init 72 = .ok (.aload_n 0, 1) := by decide +kernel
theorem dX12_init_73 : decode cX12_init 73 = .ok (.bipush 12, 2) := by decide +kernel
theorem dX12_init_75 : decode cX12_init 75 = .ok (.newarray .long, 2) := by decide +kernel
theorem dX12_init_77 : decode cX12_init 77 = .ok (.putfield 36, 3) := by decide +kernel
theorem dX12_init_80 : decode cX12_init 80 = .ok (.aload_n 0, 1) := by decide +kernel
theorem dX12_init_81 : decode cX12_init 81 = .ok (.bipush 112, 2) := by decide +kernel
theorem dX12_init_83 : decode cX12_init 83 = .ok (.newarray .int, 2) := by decide +kernel
theorem dX12_init_85 : decode cX12_init 85 = .ok (.putfield 39, 3) := by decide +kernel
theorem dX12_init_88 : decode cX12_init 88 = .ok (.aload_n 0, 1) := by decide +kernel
theorem dX12_init_89 : decode cX12_init 89 = .ok (.iconst (-1), 1) := by decide +kernel
theorem dX12_init_90 : decode cX12_init 90 = .ok (.putfield 42, 3) := by decide +kernel
theorem dX12_init_93 : decode cX12_init 93 = .ok (.aload_n 0, 1) := by decide +kernel
theorem dX12_init_94 : decode cX12_init 94 = .ok (.bipush 7, 2) := by decide +kernel
theorem dX12_init_96 : decode cX12_init 96 = .ok (.newarray .int, 2) := by decide +kernel
theorem dX12_init_98 : decode cX12_init 98 = .ok (.putfield 46, 3) := by decide +kernel
theorem dX12_init_101 : decode cX12_init 101 = .ok (.aload_n 0, 1) := by decide +kernel
theorem dX12_init_102 : decode cX12_init 102 = .ok (.sipush 720, 3) := by decide +kernel
theorem dX12_init_105 : decode cX12_init 105 = .ok (.newarray .int, 2) := by decide +kernel
theorem dX12_init_107 : decode cX12_init 107 = .ok (.putfield 49, 3) := by decide +kernel
theorem dX12_init_110 : decode cX12_init 110 = .ok (.aload_n 0, 1) := by decide +kernel
theorem dX12_init_111 : decode cX12_init 111 = .ok (.bipush 7, 2) := by decide +kernel
theorem dX12_init_113 : decode cX12_init 113 = .ok (.newarray .int, 2) := by decide +kernel
theorem dX12_init_115 : decode cX12_init 115 = .ok (.putfield 52, 3) := by decide +kernel
theorem dX12_init_118 : decode cX12_init 118 = .ok (.aload_n 0, 1) := by decide +kernel
theorem dX12_init_119 : decode cX12_init 119 = .ok (.bipush 7, 2) := by decide +kernel
theorem dX12_init_121 : decode cX12_init 121 = .ok (.newarray .int, 2) := by decide +kernel
theorem dX12_init_123 : decode cX12_init 123 = .ok (.putfield 55, 3) := by decide +kernel
theorem dX12_init_126 : decode cX12_init 126 = .ok (.aload_n 0, 1) := by decide +kernel
theorem dX12_init_127 : decode cX12_init 127 = .ok (.sipush 5040, 3) := by decide +kernel
theorem dX12_init_130 : decode cX12_init 130 = .ok (.newarray .int, 2) := by decide +kernel
theorem dX12_init_132 : decode cX12_init 132 = .ok (.putfield 58, 3) := by decide +kernel
theorem dX12_init_135 : decode cX12_init 135 = .ok (.aload_n 0, 1) := by decide +kernel
theorem dX12_init_136 : decode cX12_init 136 = .ok (.sipush 5040, 3) := by decide +kernel
theorem dX12_init_139 : decode cX12_init 139 = .ok (.newarray .int, 2) := by decide +kernel
theorem dX12_init_141 : decode cX12_init 141 = .ok (.putfield 61, 3) := by decide +kernel
theorem dX12_init_144 : decode cX12_init 144 = .ok (.aload_n 0, 1) := by decide +kernel
theorem dX12_init_145 : decode cX12_init 145 = .ok (.bipush 36, 2) := by decide +kernel
theorem dX12_init_147 : decode cX12_init 147 = .ok (.newarray .int, 2) := by decide +kernel
theorem dX12_init_149 : decode cX12_init 149 = .ok (.putfield 64, 3) := by decide +kernel
theorem dX12_init_152 : decode cX12_init 152 = .ok (.aload_n 0, 1) := by decide +kernel
theorem dX12_init_153 : decode cX12_init 153 = .ok (.bipush 72, 2) := by decide +kernel
theorem dX12_init_155 : decode cX12_init 155 = .ok (.newarray .int, 2) := by decide +kernel
theorem dX12_init_157 : decode cX12_init 157 = .ok (.putfield 67, 3) := by decide +kernel
theorem dX12_init_160 : decode cX12_init 160 = .ok (.aload_n 0, 1) := by decide +kernel
theorem dX12_init_161 : decode cX12_init 161 = .ok (.bipush 7, 2) := by decide +kernel
theorem dX12_init_163 : decode cX12_init 163 = .ok (.newarray .boolean, 2) := by decide +kernel
theorem dX12_init_165 : decode cX12_init 165 = .ok (.putfield 70, 3) := by decide +kernel
theorem dX12_init_168 : decode cX12_init 168 = .ok (.aload_n 0, 1) := by decide +kernel
theorem dX12_init_169 : decode cX12_init 169 = .ok (.bipush 49, 2) := by decide +kernel
theorem dX12_init_171 : decode cX12_init 171 = .ok (.newarray .int, 2) := by decide +kernel
theorem dX12_init_173 : decode cX12_init 173 = .ok (.putfield 74, 3) := by decide +kernel
theorem dX12_init_176 : decode cX12_init 176 = .ok (.aload_n 0, 1) := by decide +kernel
theorem dX12_init_177 : decode cX12_init 177 = .ok (.sipush 448, 3) := by decide +kernel
theorem dX12_init_180 : decode cX12_init 180 = .ok (.newarray .int, 2) := by decide +kernel
theorem dX12_init_182 : decode cX12_init 182 = .ok (.putfield 77, 3) := by decide +kernel
theorem dX12_init_185 : decode cX12_init 185 = .ok (.aload_n 0, 1) := by decide +kernel
theorem dX12_init_186 : decode cX12_init 186 = .ok (.iconst 4, 1) := by decide +kernel
theorem dX12_init_187 : decode cX12_init 187 = .ok (.newarray .int, 2) := by decide +kernel
theorem dX12_init_189 : decode cX12_init 189 = .ok (.putfield 80, 3) := by decide +kernel
theorem dX12_init_192 : decode cX12_init 192 = .ok (.aload_n 0, 1) := by decide +kernel
theorem dX12_init_193 : decode cX12_init 193 = .ok (.iconst 4, 1) := by decide +kernel
theorem dX12_init_194 : decode cX12_init 194 = .ok (.newarray .int, 2) := by decide +kernel
theorem dX12_init_196 : decode cX12_init 196 = .ok (.putfield 83, 3) := by decide +kernel
theorem dX12_init_199 : decode cX12_init 199 = .ok (.aload_n 0, 1) := by decide +kernel
theorem dX12_init_200 : decode cX12_init 200 = .ok (.iconst 4, 1) := by decide +kernel
theorem dX12_init_201 : decode cX12_init 201 = .ok (.newarray .boolean, 2) := by decide +kernel
theorem dX12_init_203 : decode cX12_init 203 = .ok (.putfield 86, 3) := by decide +kernel
theorem dX12_init_206 : decode cX12_init 206 = .ok (.return_, 1) := by decide +kernel
def m_init (N nE : Nat) (q : Int) (M : jMem) : Option (Int × jMem) := jchk (0 ≤ q) <| jchk (jn M < nE ∧ jTM[jn M]? = some (1000000 * (1 + 1) + 400)) <| jlt (jnewM jTM M) fun M2 => jchk ((jkb jTM q 12 = true ∧ q < M2 (-1) 0) ∧ 0 ≤ (M (-1) 0)) <| jlt (up M2 q 0 ((M (-1) 0))) fun M3 => jchk (jn M3 < nE ∧ jTM[jn M3]? = some (1000000 * (0 + 1) + 2400)) <| jlt (jnewM jTM M3) fun M6 => jchk ((jkb jTM q 12 = true ∧ q < M6 (-1) 0) ∧ 0 ≤ (M3 (-1) 0)) <| jlt (up M6 q 3 ((M3 (-1) 0))) fun M7 => jchk (jn M7 < nE ∧ jTM[jn M7]? = some (1000000 * (0 + 1) + 7)) <| jlt (jnewM jTM M7) fun M10 => jchk ((jkb jTM q 12 = true ∧ q < M10 (-1) 0) ∧ 0 ≤ (M7 (-1) 0)) <| jlt (up M10 q 4 ((M7 (-1) 0))) fun M11 => jchk (jn M11 < nE ∧ jTM[jn M11]? = some (1000000 * (0 + 1) + 288)) <| jlt (jnewM jTM M11) fun M14 => jchk ((jkb jTM q 12 = true ∧ q < M14 (-1) 0) ∧ 0 ≤ (M11 (-1) 0)) <| jlt (up M14 q 5 ((M11 (-1) 0))) fun M15 => jchk (jn M15 < nE ∧ jTM[jn M15]? = some (1000000 * (0 + 1) + 6)) <| jlt (jnewM jTM M15) fun M18 => jchk ((jkb jTM q 12 = true ∧ q < M18 (-1) 0) ∧ 0 ≤ (M15 (-1) 0)) <| jlt (up M18 q 6 ((M15 (-1) 0))) fun M19 => jchk (jn M19 < nE ∧ jTM[jn M19]? = some (1000000 * (0 + 1) + 81)) <| jlt (jnewM jTM M19) fun M22 => jchk ((jkb jTM q 12 = true ∧ q < M22 (-1) 0) ∧ 0 ≤ (M19 (-1) 0)) <| jlt (up M22 q 7 ((M19 (-1) 0))) fun M23 => jchk (jn M23 < nE ∧ jTM[jn M23]? = some (1000000 * (0 + 1) + 400)) <| jlt (jnewM jTM M23) fun M26 => jchk ((jkb jTM q 12 = true ∧ q < M26 (-1) 0) ∧ 0 ≤ (M23 (-1) 0)) <| jlt (up M26 q 15 ((M23 (-1) 0))) fun M27 => jchk (jn M27 < nE ∧ jTM[jn M27]? = some (1000000 * (4 + 1) + 64)) <| jlt (jnewM jTM M27) fun M30 => jchk ((jkb jTM q 12 = true ∧ q < M30 (-1) 0) ∧ 0 ≤ (M27 (-1) 0)) <| jlt (up M30 q 17 ((M27 (-1) 0))) fun M31 => jchk (jn M31 < nE ∧ jTM[jn M31]? = some (1000000 * (4 + 1) + 12)) <| jlt (jnewM jTM M31) fun M34 => jchk ((jkb jTM q 12 = true ∧ q < M34 (-1) 0) ∧ 0 ≤ (M31 (-1) 0)) <| jlt (up M34 q 19 ((M31 (-1) 0))) fun M35 => jchk (jn M35 < nE ∧ jTM[jn M35]? = some (1000000 * (0 + 1) + 112)) <| jlt (jnewM jTM M35) fun M38 => jchk ((jkb jTM q 12 = true ∧ q < M38 (-1) 0) ∧ 0 ≤ (M35 (-1) 0)) <| jlt (up M38 q 20 ((M35 (-1) 0))) fun M39 => jchk (jkb jTM q 12 = true ∧ q < M39 (-1) 0) <| jlt (up M39 q 21 ((-1))) fun M41 => jchk (jn M41 < nE ∧ jTM[jn M41]? = some (1000000 * (0 + 1) + 7)) <| jlt (jnewM jTM M41) fun M44 => jchk ((jkb jTM q 12 = true ∧ q < M44 (-1) 0) ∧ 0 ≤ (M41 (-1) 0)) <| jlt (up M44 q 23 ((M41 (-1) 0))) fun M45 => jchk (jn M45 < nE ∧ jTM[jn M45]? = some (1000000 * (0 + 1) + 720)) <| jlt (jnewM jTM M45) fun M48 => jchk ((jkb jTM q 12 = true ∧ q < M48 (-1) 0) ∧ 0 ≤ (M45 (-1) 0)) <| jlt (up M48 q 25 ((M45 (-1) 0))) fun M49 => jchk (jn M49 < nE ∧ jTM[jn M49]? = some (1000000 * (0 + 1) + 7)) <| jlt (jnewM jTM M49) fun M52 => jchk ((jkb jTM q 12 = true ∧ q < M52 (-1) 0) ∧ 0 ≤ (M49 (-1) 0)) <| jlt (up M52 q 27 ((M49 (-1) 0))) fun M53 => jchk (jn M53 < nE ∧ jTM[jn M53]? = some (1000000 * (0 + 1) + 7)) <| jlt (jnewM jTM M53) fun M56 => jchk ((jkb jTM q 12 = true ∧ q < M56 (-1) 0) ∧ 0 ≤ (M53 (-1) 0)) <| jlt (up M56 q 28 ((M53 (-1) 0))) fun M57 => jchk (jn M57 < nE ∧ jTM[jn M57]? = some (1000000 * (0 + 1) + 5040)) <| jlt (jnewM jTM M57) fun M60 => jchk ((jkb jTM q 12 = true ∧ q < M60 (-1) 0) ∧ 0 ≤ (M57 (-1) 0)) <| jlt (up M60 q 29 ((M57 (-1) 0))) fun M61 => jchk (jn M61 < nE ∧ jTM[jn M61]? = some (1000000 * (0 + 1) + 5040)) <| jlt (jnewM jTM M61) fun M64 => jchk ((jkb jTM q 12 = true ∧ q < M64 (-1) 0) ∧ 0 ≤ (M61 (-1) 0)) <| jlt (up M64 q 30 ((M61 (-1) 0))) fun M65 => jchk (jn M65 < nE ∧ jTM[jn M65]? = some (1000000 * (0 + 1) + 36)) <| jlt (jnewM jTM M65) fun M68 => jchk ((jkb jTM q 12 = true ∧ q < M68 (-1) 0) ∧ 0 ≤ (M65 (-1) 0)) <| jlt (up M68 q 33 ((M65 (-1) 0))) fun M69 => jchk (jn M69 < nE ∧ jTM[jn M69]? = some (1000000 * (0 + 1) + 72)) <| jlt (jnewM jTM M69) fun M72 => jchk ((jkb jTM q 12 = true ∧ q < M72 (-1) 0) ∧ 0 ≤ (M69 (-1) 0)) <| jlt (up M72 q 34 ((M69 (-1) 0))) fun M73 => jchk (jn M73 < nE ∧ jTM[jn M73]? = some (1000000 * (3 + 1) + 7)) <| jlt (jnewM jTM M73) fun M76 => jchk ((jkb jTM q 12 = true ∧ q < M76 (-1) 0) ∧ 0 ≤ (M73 (-1) 0)) <| jlt (up M76 q 35 ((M73 (-1) 0))) fun M77 => jchk (jn M77 < nE ∧ jTM[jn M77]? = some (1000000 * (0 + 1) + 49)) <| jlt (jnewM jTM M77) fun M80 => jchk ((jkb jTM q 12 = true ∧ q < M80 (-1) 0) ∧ 0 ≤ (M77 (-1) 0)) <| jlt (up M80 q 36 ((M77 (-1) 0))) fun M81 => jchk (jn M81 < nE ∧ jTM[jn M81]? = some (1000000 * (0 + 1) + 448)) <| jlt (jnewM jTM M81) fun M84 => jchk ((jkb jTM q 12 = true ∧ q < M84 (-1) 0) ∧ 0 ≤ (M81 (-1) 0)) <| jlt (up M84 q 38 ((M81 (-1) 0))) fun M85 => jchk (jn M85 < nE ∧ jTM[jn M85]? = some (1000000 * (0 + 1) + 4)) <| jlt (jnewM jTM M85) fun M88 => jchk ((jkb jTM q 12 = true ∧ q < M88 (-1) 0) ∧ 0 ≤ (M85 (-1) 0)) <| jlt (up M88 q 39 ((M85 (-1) 0))) fun M89 => jchk (jn M89 < nE ∧ jTM[jn M89]? = some (1000000 * (0 + 1) + 4)) <| jlt (jnewM jTM M89) fun M92 => jchk ((jkb jTM q 12 = true ∧ q < M92 (-1) 0) ∧ 0 ≤ (M89 (-1) 0)) <| jlt (up M92 q 40 ((M89 (-1) 0))) fun M93 => jchk (jn M93 < nE ∧ jTM[jn M93]? = some (1000000 * (3 + 1) + 4)) <| jlt (jnewM jTM M93) fun M96 => jchk ((jkb jTM q 12 = true ∧ q < M96 (-1) 0) ∧ 0 ≤ (M93 (-1) 0)) <| jlt (up M96 q 41 ((M93 (-1) 0))) fun M97 => jchk (jn M97 = nE) <| some (0, M97)
theorem c_m_init {l : Launch} {g : jG} (N nE : Nat) (q : Int) (M : jMem) : ∀ o, m_init N nE q M = some o → jC1 l g jTM yX12_init cX12_init 1 (jn M) nE 1 q M o := by
  refine jMet1 (own := RX12) (em := id) (by decide +kernel) rfl rfl (by decide) (fun K hR => ?_)
  unfold m_init
  refine z_chk (fun hq0 => ?_)
  refine y_aload_n (pc := 0) hR 0 dX12_init_0 rfl rfl hq0 ?_
  refine y_obj (pc := 1) hR hq0 jl_RX12_1 jw_obj_i jw_obj_c (by decide) (Nat.le_of_ble_eq_true rfl) dX12_init_1 ?_
  refine y_aload_n (pc := 4) hR 0 dX12_init_4 rfl rfl hq0 ?_
  refine y_sipush (pc := 5) hR dX12_init_5 rfl ?_
  refine z_chk (fun hc1 => ?_)
  refine y_newa1 (pc := 8) hR (len := 400) jar_1 rfl (by decide) hc1 dX12_init_8 (fun M2 => ?_)
  refine z_chk (fun hc4 => ?_)
  refine y_putr (pc := 10) hR (cq := 2) (j := 0) jpf_RX12_7 (jkb_ok hc4.1.1) hc4.1.2 (by decide) rfl rfl hc4.2 (fun _ => rfl) (fun _ => rfl) dX12_init_10 (fun M3 => ?_)
  refine y_aload_n (pc := 13) hR 0 dX12_init_13 rfl rfl hq0 ?_
  refine y_sipush (pc := 14) hR dX12_init_14 rfl ?_
  refine z_chk (fun hc5 => ?_)
  refine y_newa0 (pc := 17) hR (len := 2400) jar_0 rfl (by decide) hc5 dX12_init_17 (fun M6 => ?_)
  refine z_chk (fun hc8 => ?_)
  refine y_putr (pc := 19) hR (cq := 3) (j := 3) jpf_RX12_13 (jkb_ok hc8.1.1) hc8.1.2 (by decide) rfl rfl hc8.2 (fun _ => rfl) (fun _ => rfl) dX12_init_19 (fun M7 => ?_)
  refine y_aload_n (pc := 22) hR 0 dX12_init_22 rfl rfl hq0 ?_
  refine y_bipush (pc := 23) hR dX12_init_23 rfl ?_
  refine z_chk (fun hc9 => ?_)
  refine y_newa0 (pc := 25) hR (len := 7) jar_0 rfl (by decide) hc9 dX12_init_25 (fun M10 => ?_)
  refine z_chk (fun hc12 => ?_)
  refine y_putr (pc := 27) hR (cq := 4) (j := 4) jpf_RX12_17 (jkb_ok hc12.1.1) hc12.1.2 (by decide) rfl rfl hc12.2 (fun _ => rfl) (fun _ => rfl) dX12_init_27 (fun M11 => ?_)
  refine y_aload_n (pc := 30) hR 0 dX12_init_30 rfl rfl hq0 ?_
  refine y_sipush (pc := 31) hR dX12_init_31 rfl ?_
  refine z_chk (fun hc13 => ?_)
  refine y_newa0 (pc := 34) hR (len := 288) jar_0 rfl (by decide) hc13 dX12_init_34 (fun M14 => ?_)
  refine z_chk (fun hc16 => ?_)
  refine y_putr (pc := 36) hR (cq := 5) (j := 5) jpf_RX12_20 (jkb_ok hc16.1.1) hc16.1.2 (by decide) rfl rfl hc16.2 (fun _ => rfl) (fun _ => rfl) dX12_init_36 (fun M15 => ?_)
  refine y_aload_n (pc := 39) hR 0 dX12_init_39 rfl rfl hq0 ?_
  refine y_bipush (pc := 40) hR dX12_init_40 rfl ?_
  refine z_chk (fun hc17 => ?_)
  refine y_newa0 (pc := 42) hR (len := 6) jar_0 rfl (by decide) hc17 dX12_init_42 (fun M18 => ?_)
  refine z_chk (fun hc20 => ?_)
  refine y_putr (pc := 44) hR (cq := 6) (j := 6) jpf_RX12_23 (jkb_ok hc20.1.1) hc20.1.2 (by decide) rfl rfl hc20.2 (fun _ => rfl) (fun _ => rfl) dX12_init_44 (fun M19 => ?_)
  refine y_aload_n (pc := 47) hR 0 dX12_init_47 rfl rfl hq0 ?_
  refine y_bipush (pc := 48) hR dX12_init_48 rfl ?_
  refine z_chk (fun hc21 => ?_)
  refine y_newa0 (pc := 50) hR (len := 81) jar_0 rfl (by decide) hc21 dX12_init_50 (fun M22 => ?_)
  refine z_chk (fun hc24 => ?_)
  refine y_putr (pc := 52) hR (cq := 7) (j := 7) jpf_RX12_26 (jkb_ok hc24.1.1) hc24.1.2 (by decide) rfl rfl hc24.2 (fun _ => rfl) (fun _ => rfl) dX12_init_52 (fun M23 => ?_)
  refine y_aload_n (pc := 55) hR 0 dX12_init_55 rfl rfl hq0 ?_
  refine y_sipush (pc := 56) hR dX12_init_56 rfl ?_
  refine z_chk (fun hc25 => ?_)
  refine y_newa0 (pc := 59) hR (len := 400) jar_0 rfl (by decide) hc25 dX12_init_59 (fun M26 => ?_)
  refine z_chk (fun hc28 => ?_)
  refine y_putr (pc := 61) hR (cq := 8) (j := 15) jpf_RX12_29 (jkb_ok hc28.1.1) hc28.1.2 (by decide) rfl rfl hc28.2 (fun _ => rfl) (fun _ => rfl) dX12_init_61 (fun M27 => ?_)
  refine y_aload_n (pc := 64) hR 0 dX12_init_64 rfl rfl hq0 ?_
  refine y_bipush (pc := 65) hR dX12_init_65 rfl ?_
  refine z_chk (fun hc29 => ?_)
  refine y_newa4 (pc := 67) hR (len := 64) jar_4 rfl (by decide) hc29 dX12_init_67 (fun M30 => ?_)
  refine z_chk (fun hc32 => ?_)
  refine y_putr (pc := 69) hR (cq := 9) (j := 17) jpf_RX12_32 (jkb_ok hc32.1.1) hc32.1.2 (by decide) rfl rfl hc32.2 (fun _ => rfl) (fun _ => rfl) dX12_init_69 (fun M31 => ?_)
  refine y_aload_n (pc := 72) hR 0 dX12_init_72 rfl rfl hq0 ?_
  refine y_bipush (pc := 73) hR dX12_init_73 rfl ?_
  refine z_chk (fun hc33 => ?_)
  refine y_newa4 (pc := 75) hR (len := 12) jar_4 rfl (by decide) hc33 dX12_init_75 (fun M34 => ?_)
  refine z_chk (fun hc36 => ?_)
  refine y_putr (pc := 77) hR (cq := 10) (j := 19) jpf_RX12_36 (jkb_ok hc36.1.1) hc36.1.2 (by decide) rfl rfl hc36.2 (fun _ => rfl) (fun _ => rfl) dX12_init_77 (fun M35 => ?_)
  refine y_aload_n (pc := 80) hR 0 dX12_init_80 rfl rfl hq0 ?_
  refine y_bipush (pc := 81) hR dX12_init_81 rfl ?_
  refine z_chk (fun hc37 => ?_)
  refine y_newa0 (pc := 83) hR (len := 112) jar_0 rfl (by decide) hc37 dX12_init_83 (fun M38 => ?_)
  refine z_chk (fun hc40 => ?_)
  refine y_putr (pc := 85) hR (cq := 11) (j := 20) jpf_RX12_39 (jkb_ok hc40.1.1) hc40.1.2 (by decide) rfl rfl hc40.2 (fun _ => rfl) (fun _ => rfl) dX12_init_85 (fun M39 => ?_)
  refine y_aload_n (pc := 88) hR 0 dX12_init_88 rfl rfl hq0 ?_
  refine y_iconst (pc := 89) hR dX12_init_89 rfl ?_
  refine z_chk (fun hc42 => ?_)
  refine y_puti (pc := 90) hR (cq := 0) (j := 21) jp_RX12_42 (jkb_ok hc42.1) hc42.2 (by decide) rfl rfl rfl rfl dX12_init_90 (fun M41 => ?_)
  refine y_aload_n (pc := 93) hR 0 dX12_init_93 rfl rfl hq0 ?_
  refine y_bipush (pc := 94) hR dX12_init_94 rfl ?_
  refine z_chk (fun hc43 => ?_)
  refine y_newa0 (pc := 96) hR (len := 7) jar_0 rfl (by decide) hc43 dX12_init_96 (fun M44 => ?_)
  refine z_chk (fun hc46 => ?_)
  refine y_putr (pc := 98) hR (cq := 12) (j := 23) jpf_RX12_46 (jkb_ok hc46.1.1) hc46.1.2 (by decide) rfl rfl hc46.2 (fun _ => rfl) (fun _ => rfl) dX12_init_98 (fun M45 => ?_)
  refine y_aload_n (pc := 101) hR 0 dX12_init_101 rfl rfl hq0 ?_
  refine y_sipush (pc := 102) hR dX12_init_102 rfl ?_
  refine z_chk (fun hc47 => ?_)
  refine y_newa0 (pc := 105) hR (len := 720) jar_0 rfl (by decide) hc47 dX12_init_105 (fun M48 => ?_)
  refine z_chk (fun hc50 => ?_)
  refine y_putr (pc := 107) hR (cq := 13) (j := 25) jpf_RX12_49 (jkb_ok hc50.1.1) hc50.1.2 (by decide) rfl rfl hc50.2 (fun _ => rfl) (fun _ => rfl) dX12_init_107 (fun M49 => ?_)
  refine y_aload_n (pc := 110) hR 0 dX12_init_110 rfl rfl hq0 ?_
  refine y_bipush (pc := 111) hR dX12_init_111 rfl ?_
  refine z_chk (fun hc51 => ?_)
  refine y_newa0 (pc := 113) hR (len := 7) jar_0 rfl (by decide) hc51 dX12_init_113 (fun M52 => ?_)
  refine z_chk (fun hc54 => ?_)
  refine y_putr (pc := 115) hR (cq := 14) (j := 27) jpf_RX12_52 (jkb_ok hc54.1.1) hc54.1.2 (by decide) rfl rfl hc54.2 (fun _ => rfl) (fun _ => rfl) dX12_init_115 (fun M53 => ?_)
  refine y_aload_n (pc := 118) hR 0 dX12_init_118 rfl rfl hq0 ?_
  refine y_bipush (pc := 119) hR dX12_init_119 rfl ?_
  refine z_chk (fun hc55 => ?_)
  refine y_newa0 (pc := 121) hR (len := 7) jar_0 rfl (by decide) hc55 dX12_init_121 (fun M56 => ?_)
  refine z_chk (fun hc58 => ?_)
  refine y_putr (pc := 123) hR (cq := 15) (j := 28) jpf_RX12_55 (jkb_ok hc58.1.1) hc58.1.2 (by decide) rfl rfl hc58.2 (fun _ => rfl) (fun _ => rfl) dX12_init_123 (fun M57 => ?_)
  refine y_aload_n (pc := 126) hR 0 dX12_init_126 rfl rfl hq0 ?_
  refine y_sipush (pc := 127) hR dX12_init_127 rfl ?_
  refine z_chk (fun hc59 => ?_)
  refine y_newa0 (pc := 130) hR (len := 5040) jar_0 rfl (by decide) hc59 dX12_init_130 (fun M60 => ?_)
  refine z_chk (fun hc62 => ?_)
  refine y_putr (pc := 132) hR (cq := 16) (j := 29) jpf_RX12_58 (jkb_ok hc62.1.1) hc62.1.2 (by decide) rfl rfl hc62.2 (fun _ => rfl) (fun _ => rfl) dX12_init_132 (fun M61 => ?_)
  refine y_aload_n (pc := 135) hR 0 dX12_init_135 rfl rfl hq0 ?_
  refine y_sipush (pc := 136) hR dX12_init_136 rfl ?_
  refine z_chk (fun hc63 => ?_)
  refine y_newa0 (pc := 139) hR (len := 5040) jar_0 rfl (by decide) hc63 dX12_init_139 (fun M64 => ?_)
  refine z_chk (fun hc66 => ?_)
  refine y_putr (pc := 141) hR (cq := 17) (j := 30) jpf_RX12_61 (jkb_ok hc66.1.1) hc66.1.2 (by decide) rfl rfl hc66.2 (fun _ => rfl) (fun _ => rfl) dX12_init_141 (fun M65 => ?_)
  refine y_aload_n (pc := 144) hR 0 dX12_init_144 rfl rfl hq0 ?_
  refine y_bipush (pc := 145) hR dX12_init_145 rfl ?_
  refine z_chk (fun hc67 => ?_)
  refine y_newa0 (pc := 147) hR (len := 36) jar_0 rfl (by decide) hc67 dX12_init_147 (fun M68 => ?_)
  refine z_chk (fun hc70 => ?_)
  refine y_putr (pc := 149) hR (cq := 18) (j := 33) jpf_RX12_64 (jkb_ok hc70.1.1) hc70.1.2 (by decide) rfl rfl hc70.2 (fun _ => rfl) (fun _ => rfl) dX12_init_149 (fun M69 => ?_)
  refine y_aload_n (pc := 152) hR 0 dX12_init_152 rfl rfl hq0 ?_
  refine y_bipush (pc := 153) hR dX12_init_153 rfl ?_
  refine z_chk (fun hc71 => ?_)
  refine y_newa0 (pc := 155) hR (len := 72) jar_0 rfl (by decide) hc71 dX12_init_155 (fun M72 => ?_)
  refine z_chk (fun hc74 => ?_)
  refine y_putr (pc := 157) hR (cq := 19) (j := 34) jpf_RX12_67 (jkb_ok hc74.1.1) hc74.1.2 (by decide) rfl rfl hc74.2 (fun _ => rfl) (fun _ => rfl) dX12_init_157 (fun M73 => ?_)
  refine y_aload_n (pc := 160) hR 0 dX12_init_160 rfl rfl hq0 ?_
  refine y_bipush (pc := 161) hR dX12_init_161 rfl ?_
  refine z_chk (fun hc75 => ?_)
  refine y_newa3 (pc := 163) hR (len := 7) jar_3 rfl (by decide) hc75 dX12_init_163 (fun M76 => ?_)
  refine z_chk (fun hc78 => ?_)
  refine y_putr (pc := 165) hR (cq := 20) (j := 35) jpf_RX12_70 (jkb_ok hc78.1.1) hc78.1.2 (by decide) rfl rfl hc78.2 (fun _ => rfl) (fun _ => rfl) dX12_init_165 (fun M77 => ?_)
  refine y_aload_n (pc := 168) hR 0 dX12_init_168 rfl rfl hq0 ?_
  refine y_bipush (pc := 169) hR dX12_init_169 rfl ?_
  refine z_chk (fun hc79 => ?_)
  refine y_newa0 (pc := 171) hR (len := 49) jar_0 rfl (by decide) hc79 dX12_init_171 (fun M80 => ?_)
  refine z_chk (fun hc82 => ?_)
  refine y_putr (pc := 173) hR (cq := 21) (j := 36) jpf_RX12_74 (jkb_ok hc82.1.1) hc82.1.2 (by decide) rfl rfl hc82.2 (fun _ => rfl) (fun _ => rfl) dX12_init_173 (fun M81 => ?_)
  refine y_aload_n (pc := 176) hR 0 dX12_init_176 rfl rfl hq0 ?_
  refine y_sipush (pc := 177) hR dX12_init_177 rfl ?_
  refine z_chk (fun hc83 => ?_)
  refine y_newa0 (pc := 180) hR (len := 448) jar_0 rfl (by decide) hc83 dX12_init_180 (fun M84 => ?_)
  refine z_chk (fun hc86 => ?_)
  refine y_putr (pc := 182) hR (cq := 22) (j := 38) jpf_RX12_77 (jkb_ok hc86.1.1) hc86.1.2 (by decide) rfl rfl hc86.2 (fun _ => rfl) (fun _ => rfl) dX12_init_182 (fun M85 => ?_)
  refine y_aload_n (pc := 185) hR 0 dX12_init_185 rfl rfl hq0 ?_
  refine y_iconst (pc := 186) hR dX12_init_186 rfl ?_
  refine z_chk (fun hc87 => ?_)
  refine y_newa0 (pc := 187) hR (len := 4) jar_0 rfl (by decide) hc87 dX12_init_187 (fun M88 => ?_)
  refine z_chk (fun hc90 => ?_)
  refine y_putr (pc := 189) hR (cq := 23) (j := 39) jpf_RX12_80 (jkb_ok hc90.1.1) hc90.1.2 (by decide) rfl rfl hc90.2 (fun _ => rfl) (fun _ => rfl) dX12_init_189 (fun M89 => ?_)
  refine y_aload_n (pc := 192) hR 0 dX12_init_192 rfl rfl hq0 ?_
  refine y_iconst (pc := 193) hR dX12_init_193 rfl ?_
  refine z_chk (fun hc91 => ?_)
  refine y_newa0 (pc := 194) hR (len := 4) jar_0 rfl (by decide) hc91 dX12_init_194 (fun M92 => ?_)
  refine z_chk (fun hc94 => ?_)
  refine y_putr (pc := 196) hR (cq := 24) (j := 40) jpf_RX12_83 (jkb_ok hc94.1.1) hc94.1.2 (by decide) rfl rfl hc94.2 (fun _ => rfl) (fun _ => rfl) dX12_init_196 (fun M93 => ?_)
  refine y_aload_n (pc := 199) hR 0 dX12_init_199 rfl rfl hq0 ?_
  refine y_iconst (pc := 200) hR dX12_init_200 rfl ?_
  refine z_chk (fun hc95 => ?_)
  refine y_newa3 (pc := 201) hR (len := 4) jar_3 rfl (by decide) hc95 dX12_init_201 (fun M96 => ?_)
  refine z_chk (fun hc98 => ?_)
  refine y_putr (pc := 203) hR (cq := 25) (j := 41) jpf_RX12_86 (jkb_ok hc98.1.1) hc98.1.2 (by decide) rfl rfl hc98.2 (fun _ => rfl) (fun _ => rfl) dX12_init_203 (fun M97 => ?_)
  refine z_chk (fun hc99 => ?_)
  exact y_return (x := 0) (pc := 206) hR dX12_init_206 hc99 rfl
