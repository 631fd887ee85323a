/-! the law (by program) -/
theorem v_let1 {K : Nat → jL → List jV → jMem → jMem → Int → Prop} {pc : Nat} {lv : jL} {st : List jV} {X Y : jMem} {k0 : Nat} {x : Int} {f : Int → Option Int} (k : ∀ y, jZ3 K pc lv ((k0, y) :: st) X Y (f y)) : jZ3 K pc lv ((k0, x) :: st) X Y (jlt x f) := k x
theorem jl_RL_101 : Cond.methodLink RL 101 yX12_ahead ∈ lw_g := lw_in (List.mem_append_right _ (List.mem_append_right _ (List.mem_append_right _ (List.mem_append_right _ (List.mem_append_right _ (List.mem_append_right _ (List.mem_append_right _ (List.mem_append_left _ (List.mem_of_getElem? (i := 212) (by decide +kernel)))))))))) rfl
theorem jl_RL_102 : Cond.methodLink RL 102 yX11_dry ∈ lw_g := lw_in (List.mem_append_right _ (List.mem_append_right _ (List.mem_append_right _ (List.mem_append_right _ (List.mem_append_right _ (List.mem_append_left _ (List.mem_of_getElem? (i := 15) (by decide +kernel)))))))) rfl
theorem jl_RL_105 : Cond.methodLink RL 105 yX12_dry ∈ lw_g := lw_in (List.mem_append_right _ (List.mem_append_right _ (List.mem_append_right _ (List.mem_append_right _ (List.mem_append_right _ (List.mem_append_right _ (List.mem_append_right _ (List.mem_append_left _ (List.mem_of_getElem? (i := 235) (by decide +kernel)))))))))) rfl
theorem jl_RL_106 : Cond.methodLink RL 106 yX11_home ∈ lw_g := lw_in (List.mem_append_right _ (List.mem_append_right _ (List.mem_append_right _ (List.mem_append_right _ (List.mem_append_right _ (List.mem_append_left _ (List.mem_of_getElem? (i := 23) (by decide +kernel)))))))) rfl
theorem jl_RL_109 : Cond.methodLink RL 109 yX12_home ∈ lw_g := lw_in (List.mem_append_right _ (List.mem_append_right _ (List.mem_append_right _ (List.mem_append_right _ (List.mem_append_right _ (List.mem_append_right _ (List.mem_append_right _ (List.mem_append_left _ (List.mem_of_getElem? (i := 239) (by decide +kernel)))))))))) rfl
theorem jl_RL_110 : Cond.methodLink RL 110 yX11_heir ∈ lw_g := lw_in (List.mem_append_right _ (List.mem_append_right _ (List.mem_append_right _ (List.mem_append_right _ (List.mem_append_right _ (List.mem_append_left _ (List.mem_of_getElem? (i := 32) (by decide +kernel)))))))) rfl
theorem jl_RL_113 : Cond.methodLink RL 113 yX12_heir ∈ lw_g := lw_in (List.mem_append_right _ (List.mem_append_right _ (List.mem_append_right _ (List.mem_append_right _ (List.mem_append_right _ (List.mem_append_right _ (List.mem_append_right _ (List.mem_append_right _ (List.mem_of_getElem? (i := 3) (by decide +kernel)))))))))) rfl
theorem jl_RL_114 : Cond.methodLink RL 114 yX11_depths ∈ lw_g := lw_in (List.mem_append_right _ (List.mem_append_right _ (List.mem_append_right _ (List.mem_append_right _ (List.mem_append_right _ (List.mem_append_left _ (List.mem_of_getElem? (i := 79) (by decide +kernel)))))))) rfl
theorem jl_RL_117 : Cond.methodLink RL 117 yX12_depths ∈ lw_g := lw_in (List.mem_append_right _ (List.mem_append_right _ (List.mem_append_right _ (List.mem_append_right _ (List.mem_append_right _ (List.mem_append_right _ (List.mem_append_right _ (List.mem_append_right _ (List.mem_of_getElem? (i := 75) (by decide +kernel)))))))))) rfl
theorem jl_RL_118 : Cond.methodLink RL 118 yX11_tastes ∈ lw_g := lw_in (List.mem_append_right _ (List.mem_append_right _ (List.mem_append_right _ (List.mem_append_right _ (List.mem_append_right _ (List.mem_append_left _ (List.mem_of_getElem? (i := 101) (by decide +kernel)))))))) rfl
theorem jl_RL_121 : Cond.methodLink RL 121 yX12_tastes ∈ lw_g := lw_in (List.mem_append_right _ (List.mem_append_right _ (List.mem_append_right _ (List.mem_append_right _ (List.mem_append_right _ (List.mem_append_right _ (List.mem_append_right _ (List.mem_append_right _ (List.mem_of_getElem? (i := 83) (by decide +kernel)))))))))) rfl
theorem jl_RL_122 : Cond.methodLink RL 122 yX11_rests ∈ lw_g := lw_in (List.mem_append_right _ (List.mem_append_right _ (List.mem_append_right _ (List.mem_append_right _ (List.mem_append_right _ (List.mem_append_left _ (List.mem_of_getElem? (i := 41) (by decide +kernel)))))))) rfl
theorem jl_RL_126 : Cond.methodLink RL 126 yX12_rests ∈ lw_g := lw_in (List.mem_append_right _ (List.mem_append_right _ (List.mem_append_right _ (List.mem_append_right _ (List.mem_append_right _ (List.mem_append_right _ (List.mem_append_right _ (List.mem_append_right _ (List.mem_of_getElem? (i := 12) (by decide +kernel)))))))))) rfl
theorem jl_RL_127 : Cond.methodLink RL 127 yX11_pence ∈ lw_g := lw_in (List.mem_append_right _ (List.mem_append_right _ (List.mem_append_right _ (List.mem_append_right _ (List.mem_append_right _ (List.mem_append_left _ (List.mem_of_getElem? (i := 62) (by decide +kernel)))))))) rfl
theorem jl_RL_13 : Cond.methodLink RL 13 yX11_feed ∈ lw_g := lw_in (List.mem_append_right _ (List.mem_append_right _ (List.mem_append_left _ (List.mem_of_getElem? (i := 160) (by decide +kernel))))) rfl
theorem jl_RL_130 : Cond.methodLink RL 130 yX12_pence ∈ lw_g := lw_in (List.mem_append_right _ (List.mem_append_right _ (List.mem_append_right _ (List.mem_append_right _ (List.mem_append_right _ (List.mem_append_right _ (List.mem_append_right _ (List.mem_append_right _ (List.mem_of_getElem? (i := 33) (by decide +kernel)))))))))) rfl
theorem jl_RL_131 : Cond.methodLink RL 131 yX11_note ∈ lw_g := lw_in (List.mem_append_right _ (List.mem_append_right _ (List.mem_append_right _ (List.mem_append_right _ (List.mem_append_right _ (List.mem_append_left _ (List.mem_of_getElem? (i := 71) (by decide +kernel)))))))) rfl
theorem jl_RL_134 : Cond.methodLink RL 134 yX12_note ∈ lw_g := lw_in (List.mem_append_right _ (List.mem_append_right _ (List.mem_append_right _ (List.mem_append_right _ (List.mem_append_right _ (List.mem_append_right _ (List.mem_append_right _ (List.mem_append_right _ (List.mem_of_getElem? (i := 42) (by decide +kernel)))))))))) rfl
theorem jl_RL_135 : Cond.methodLink RL 135 yX11_ruled ∈ lw_g := lw_in (List.mem_append_right _ (List.mem_append_right _ (List.mem_append_right _ (List.mem_append_right _ (List.mem_append_right _ (List.mem_append_left _ (List.mem_of_getElem? (i := 109) (by decide +kernel)))))))) rfl
theorem jl_RL_138 : Cond.methodLink RL 138 yX12_ruled ∈ lw_g := lw_in (List.mem_append_right _ (List.mem_append_right _ (List.mem_append_right _ (List.mem_append_right _ (List.mem_append_right _ (List.mem_append_right _ (List.mem_append_right _ (List.mem_append_right _ (List.mem_of_getElem? (i := 47) (by decide +kernel)))))))))) rfl
theorem jl_RL_139 : Cond.methodLink RL 139 yX11_look ∈ lw_g := lw_in (List.mem_append_right _ (List.mem_append_right _ (List.mem_append_right _ (List.mem_append_right _ (List.mem_append_right _ (List.mem_append_left _ (List.mem_of_getElem? (i := 125) (by decide +kernel)))))))) rfl
theorem jl_RL_142 : Cond.methodLink RL 142 yX12_look ∈ lw_g := lw_in (List.mem_append_right _ (List.mem_append_right _ (List.mem_append_right _ (List.mem_append_right _ (List.mem_append_right _ (List.mem_append_right _ (List.mem_append_right _ (List.mem_append_right _ (List.mem_of_getElem? (i := 67) (by decide +kernel)))))))))) rfl
theorem jl_RL_143 : Cond.methodLink RL 143 yX11_seed ∈ lw_g := lw_in (List.mem_append_right _ (List.mem_append_right _ (List.mem_append_right _ (List.mem_append_right _ (List.mem_append_right _ (List.mem_append_left _ (List.mem_of_getElem? (i := 142) (by decide +kernel)))))))) rfl
theorem jl_RL_146 : Cond.methodLink RL 146 yX12_seed ∈ lw_g := lw_in (List.mem_append_right _ (List.mem_append_right _ (List.mem_append_right _ (List.mem_append_right _ (List.mem_append_right _ (List.mem_append_right _ (List.mem_append_right _ (List.mem_append_right _ (List.mem_of_getElem? (i := 87) (by decide +kernel)))))))))) rfl
theorem jl_RL_147 : Cond.methodLink RL 147 yX11_droughts ∈ lw_g := lw_in (List.mem_append_right _ (List.mem_append_right _ (List.mem_append_right _ (List.mem_append_right _ (List.mem_append_right _ (List.mem_append_left _ (List.mem_of_getElem? (i := 146) (by decide +kernel)))))))) rfl
theorem jl_RL_150 : Cond.methodLink RL 150 yX12_droughts ∈ lw_g := lw_in (List.mem_append_right _ (List.mem_append_right _ (List.mem_append_right _ (List.mem_append_right _ (List.mem_append_right _ (List.mem_append_right _ (List.mem_append_right _ (List.mem_append_right _ (List.mem_of_getElem? (i := 91) (by decide +kernel)))))))))) rfl
theorem jl_RL_151 : Cond.methodLink RL 151 yX11_count ∈ lw_g := lw_in (List.mem_append_right _ (List.mem_append_right _ (List.mem_append_right _ (List.mem_append_right _ (List.mem_append_left _ (List.mem_of_getElem? (i := 4) (by decide +kernel))))))) rfl
theorem jl_RL_154 : Cond.methodLink RL 154 yX12_count ∈ lw_g := lw_in (List.mem_append_right _ (List.mem_append_right _ (List.mem_append_right _ (List.mem_append_right _ (List.mem_append_right _ (List.mem_append_right _ (List.mem_append_right _ (List.mem_append_right _ (List.mem_of_getElem? (i := 104) (by decide +kernel)))))))))) rfl
theorem jl_RL_155 : Cond.methodLink RL 155 yX11_image ∈ lw_g := lw_in (List.mem_append_right _ (List.mem_append_right _ (List.mem_append_right _ (List.mem_append_right _ (List.mem_append_right _ (List.mem_append_left _ (List.mem_of_getElem? (i := 162) (by decide +kernel)))))))) rfl
theorem jl_RL_158 : Cond.methodLink RL 158 yX12_image ∈ lw_g := lw_in (List.mem_append_right _ (List.mem_append_right _ (List.mem_append_right _ (List.mem_append_right _ (List.mem_append_right _ (List.mem_append_right _ (List.mem_append_right _ (List.mem_append_right _ (List.mem_of_getElem? (i := 112) (by decide +kernel)))))))))) rfl
theorem jl_RL_159 : Cond.methodLink RL 159 yX11_back ∈ lw_g := lw_in (List.mem_append_right _ (List.mem_append_right _ (List.mem_append_right _ (List.mem_append_right _ (List.mem_append_right _ (List.mem_append_left _ (List.mem_of_getElem? (i := 177) (by decide +kernel)))))))) rfl
theorem jl_RL_162 : Cond.methodLink RL 162 yX12_back ∈ lw_g := lw_in (List.mem_append_right _ (List.mem_append_right _ (List.mem_append_right _ (List.mem_append_right _ (List.mem_append_right _ (List.mem_append_right _ (List.mem_append_right _ (List.mem_append_right _ (List.mem_of_getElem? (i := 116) (by decide +kernel)))))))))) rfl
theorem jl_RL_17 : Cond.methodLink RL 17 yX12_feed ∈ lw_g := lw_in (List.mem_append_right _ (List.mem_append_right _ (List.mem_append_right _ (List.mem_append_right _ (List.mem_append_right _ (List.mem_append_right _ (List.mem_append_left _ (List.mem_of_getElem? (i := 75) (by decide +kernel))))))))) rfl
theorem jl_RL_18 : Cond.methodLink RL 18 yX11_end ∈ lw_g := lw_in (List.mem_append_right _ (List.mem_append_right _ (List.mem_append_left _ (List.mem_of_getElem? (i := 168) (by decide +kernel))))) rfl
theorem jl_RL_22 : Cond.methodLink RL 22 yX12_end ∈ lw_g := lw_in (List.mem_append_right _ (List.mem_append_right _ (List.mem_append_right _ (List.mem_append_right _ (List.mem_append_right _ (List.mem_append_right _ (List.mem_append_left _ (List.mem_of_getElem? (i := 83) (by decide +kernel))))))))) rfl
theorem jl_RL_23 : Cond.methodLink RL 23 yX11_parish ∈ lw_g := lw_in (List.mem_append_right _ (List.mem_append_right _ (List.mem_append_left _ (List.mem_of_getElem? (i := 172) (by decide +kernel))))) rfl
theorem jl_RL_27 : Cond.methodLink RL 27 yX12_parish ∈ lw_g := lw_in (List.mem_append_right _ (List.mem_append_right _ (List.mem_append_right _ (List.mem_append_right _ (List.mem_append_right _ (List.mem_append_right _ (List.mem_append_right _ (List.mem_append_left _ (List.mem_of_getElem? (i := 3) (by decide +kernel)))))))))) rfl
theorem jl_RL_28 : Cond.methodLink RL 28 yX11_rule ∈ lw_g := lw_in (List.mem_append_right _ (List.mem_append_right _ (List.mem_append_right _ (List.mem_append_left _ (List.mem_of_getElem? (i := 139) (by decide +kernel)))))) rfl
theorem jl_RL_31 : Cond.methodLink RL 31 yX12_rule ∈ lw_g := lw_in (List.mem_append_right _ (List.mem_append_right _ (List.mem_append_right _ (List.mem_append_right _ (List.mem_append_right _ (List.mem_append_right _ (List.mem_append_left _ (List.mem_of_getElem? (i := 87) (by decide +kernel))))))))) rfl
theorem jl_RL_32 : Cond.methodLink RL 32 yX11_force ∈ lw_g := lw_in (List.mem_append_right _ (List.mem_append_right _ (List.mem_append_right _ (List.mem_append_left _ (List.mem_of_getElem? (i := 205) (by decide +kernel)))))) rfl
theorem jl_RL_35 : Cond.methodLink RL 35 yX12_force ∈ lw_g := lw_in (List.mem_append_right _ (List.mem_append_right _ (List.mem_append_right _ (List.mem_append_right _ (List.mem_append_right _ (List.mem_append_right _ (List.mem_append_right _ (List.mem_append_left _ (List.mem_of_getElem? (i := 11) (by decide +kernel)))))))))) rfl
theorem jl_RL_36 : Cond.methodLink RL 36 yX11_well ∈ lw_g := lw_in (List.mem_append_right _ (List.mem_append_right _ (List.mem_append_right _ (List.mem_append_left _ (List.mem_of_getElem? (i := 212) (by decide +kernel)))))) rfl
theorem jl_RL_40 : Cond.methodLink RL 40 yX12_well ∈ lw_g := lw_in (List.mem_append_right _ (List.mem_append_right _ (List.mem_append_right _ (List.mem_append_right _ (List.mem_append_right _ (List.mem_append_right _ (List.mem_append_right _ (List.mem_append_left _ (List.mem_of_getElem? (i := 19) (by decide +kernel)))))))))) rfl
theorem jl_RL_41 : Cond.methodLink RL 41 yX11_farm ∈ lw_g := lw_in (List.mem_append_right _ (List.mem_append_right _ (List.mem_append_right _ (List.mem_append_left _ (List.mem_of_getElem? (i := 228) (by decide +kernel)))))) rfl
theorem jl_RL_44 : Cond.methodLink RL 44 yX12_farm ∈ lw_g := lw_in (List.mem_append_right _ (List.mem_append_right _ (List.mem_append_right _ (List.mem_append_right _ (List.mem_append_right _ (List.mem_append_right _ (List.mem_append_right _ (List.mem_append_left _ (List.mem_of_getElem? (i := 31) (by decide +kernel)))))))))) rfl
theorem jl_RL_45 : Cond.methodLink RL 45 yX11_lie ∈ lw_g := lw_in (List.mem_append_right _ (List.mem_append_right _ (List.mem_append_right _ (List.mem_append_left _ (List.mem_of_getElem? (i := 232) (by decide +kernel)))))) rfl
theorem jl_RL_48 : Cond.methodLink RL 48 yX12_lie ∈ lw_g := lw_in (List.mem_append_right _ (List.mem_append_right _ (List.mem_append_right _ (List.mem_append_right _ (List.mem_append_right _ (List.mem_append_right _ (List.mem_append_right _ (List.mem_append_left _ (List.mem_of_getElem? (i := 35) (by decide +kernel)))))))))) rfl
theorem jl_RL_49 : Cond.methodLink RL 49 yX11_year ∈ lw_g := lw_in (List.mem_append_right _ (List.mem_append_right _ (List.mem_append_right _ (List.mem_append_right _ (List.mem_append_left _ (List.mem_of_getElem? (i := 32) (by decide +kernel))))))) rfl
theorem jl_RL_52 : Cond.methodLink RL 52 yX12_year ∈ lw_g := lw_in (List.mem_append_right _ (List.mem_append_right _ (List.mem_append_right _ (List.mem_append_right _ (List.mem_append_right _ (List.mem_append_right _ (List.mem_append_right _ (List.mem_append_left _ (List.mem_of_getElem? (i := 51) (by decide +kernel)))))))))) rfl
theorem jl_RL_53 : Cond.methodLink RL 53 yX11_wed ∈ lw_g := lw_in (List.mem_append_right _ (List.mem_append_right _ (List.mem_append_right _ (List.mem_append_right _ (List.mem_append_left _ (List.mem_of_getElem? (i := 118) (by decide +kernel))))))) rfl
theorem jl_RL_56 : Cond.methodLink RL 56 yX12_wed ∈ lw_g := lw_in (List.mem_append_right _ (List.mem_append_right _ (List.mem_append_right _ (List.mem_append_right _ (List.mem_append_right _ (List.mem_append_right _ (List.mem_append_right _ (List.mem_append_left _ (List.mem_of_getElem? (i := 131) (by decide +kernel)))))))))) rfl
theorem jl_RL_57 : Cond.methodLink RL 57 yX11_pour ∈ lw_g := lw_in (List.mem_append_right _ (List.mem_append_right _ (List.mem_append_right _ (List.mem_append_right _ (List.mem_append_left _ (List.mem_of_getElem? (i := 125) (by decide +kernel))))))) rfl
theorem jl_RL_60 : Cond.methodLink RL 60 yX12_pour ∈ lw_g := lw_in (List.mem_append_right _ (List.mem_append_right _ (List.mem_append_right _ (List.mem_append_right _ (List.mem_append_right _ (List.mem_append_right _ (List.mem_append_right _ (List.mem_append_left _ (List.mem_of_getElem? (i := 135) (by decide +kernel)))))))))) rfl
theorem jl_RL_61 : Cond.methodLink RL 61 yX11_dig ∈ lw_g := lw_in (List.mem_append_right _ (List.mem_append_right _ (List.mem_append_right _ (List.mem_append_right _ (List.mem_append_left _ (List.mem_of_getElem? (i := 130) (by decide +kernel))))))) rfl
theorem jl_RL_64 : Cond.methodLink RL 64 yX12_dig ∈ lw_g := lw_in (List.mem_append_right _ (List.mem_append_right _ (List.mem_append_right _ (List.mem_append_right _ (List.mem_append_right _ (List.mem_append_right _ (List.mem_append_right _ (List.mem_append_left _ (List.mem_of_getElem? (i := 140) (by decide +kernel)))))))))) rfl
theorem jl_RL_65 : Cond.methodLink RL 65 yX11_birth ∈ lw_g := lw_in (List.mem_append_right _ (List.mem_append_right _ (List.mem_append_right _ (List.mem_append_right _ (List.mem_append_left _ (List.mem_of_getElem? (i := 135) (by decide +kernel))))))) rfl
theorem jl_RL_68 : Cond.methodLink RL 68 yX12_birth ∈ lw_g := lw_in (List.mem_append_right _ (List.mem_append_right _ (List.mem_append_right _ (List.mem_append_right _ (List.mem_append_right _ (List.mem_append_right _ (List.mem_append_right _ (List.mem_append_left _ (List.mem_of_getElem? (i := 145) (by decide +kernel)))))))))) rfl
theorem jl_RL_69 : Cond.methodLink RL 69 yX11_undo ∈ lw_g := lw_in (List.mem_append_right _ (List.mem_append_right _ (List.mem_append_right _ (List.mem_append_right _ (List.mem_append_left _ (List.mem_of_getElem? (i := 140) (by decide +kernel))))))) rfl
theorem jl_RL_72 : Cond.methodLink RL 72 yX12_undo ∈ lw_g := lw_in (List.mem_append_right _ (List.mem_append_right _ (List.mem_append_right _ (List.mem_append_right _ (List.mem_append_right _ (List.mem_append_right _ (List.mem_append_right _ (List.mem_append_left _ (List.mem_of_getElem? (i := 47) (by decide +kernel)))))))))) rfl
theorem jl_RL_73 : Cond.methodLink RL 73 yX11_fewest ∈ lw_g := lw_in (List.mem_append_right _ (List.mem_append_right _ (List.mem_append_right _ (List.mem_append_right _ (List.mem_append_left _ (List.mem_of_getElem? (i := 148) (by decide +kernel))))))) rfl
theorem jl_RL_76 : Cond.methodLink RL 76 yX12_fewest ∈ lw_g := lw_in (List.mem_append_right _ (List.mem_append_right _ (List.mem_append_right _ (List.mem_append_right _ (List.mem_append_right _ (List.mem_append_right _ (List.mem_append_right _ (List.mem_append_left _ (List.mem_of_getElem? (i := 149) (by decide +kernel)))))))))) rfl
theorem jl_RL_77 : Cond.methodLink RL 77 yX11_step ∈ lw_g := lw_in (List.mem_append_right _ (List.mem_append_right _ (List.mem_append_right _ (List.mem_append_right _ (List.mem_append_left _ (List.mem_of_getElem? (i := 185) (by decide +kernel))))))) rfl
theorem jl_RL_81 : Cond.methodLink RL 81 yX12_step ∈ lw_g := lw_in (List.mem_append_right _ (List.mem_append_right _ (List.mem_append_right _ (List.mem_append_right _ (List.mem_append_right _ (List.mem_append_right _ (List.mem_append_right _ (List.mem_append_left _ (List.mem_of_getElem? (i := 184) (by decide +kernel)))))))))) rfl
theorem jl_RL_82 : Cond.methodLink RL 82 yX11_lies ∈ lw_g := lw_in (List.mem_append_right _ (List.mem_append_right _ (List.mem_append_right _ (List.mem_append_right _ (List.mem_append_left _ (List.mem_of_getElem? (i := 202) (by decide +kernel))))))) rfl
theorem jl_RL_85 : Cond.methodLink RL 85 yX12_lies ∈ lw_g := lw_in (List.mem_append_right _ (List.mem_append_right _ (List.mem_append_right _ (List.mem_append_right _ (List.mem_append_right _ (List.mem_append_right _ (List.mem_append_right _ (List.mem_append_left _ (List.mem_of_getElem? (i := 192) (by decide +kernel)))))))))) rfl
theorem jl_RL_86 : Cond.methodLink RL 86 yX11_farthest ∈ lw_g := lw_in (List.mem_append_right _ (List.mem_append_right _ (List.mem_append_right _ (List.mem_append_right _ (List.mem_append_left _ (List.mem_of_getElem? (i := 210) (by decide +kernel))))))) rfl
theorem jl_RL_89 : Cond.methodLink RL 89 yX12_farthest ∈ lw_g := lw_in (List.mem_append_right _ (List.mem_append_right _ (List.mem_append_right _ (List.mem_append_right _ (List.mem_append_right _ (List.mem_append_right _ (List.mem_append_right _ (List.mem_append_left _ (List.mem_of_getElem? (i := 196) (by decide +kernel)))))))))) rfl
theorem jl_RL_90 : Cond.methodLink RL 90 yX11_comes ∈ lw_g := lw_in (List.mem_append_right _ (List.mem_append_right _ (List.mem_append_right _ (List.mem_append_right _ (List.mem_append_left _ (List.mem_of_getElem? (i := 225) (by decide +kernel))))))) rfl
theorem jl_RL_93 : Cond.methodLink RL 93 yX12_comes ∈ lw_g := lw_in (List.mem_append_right _ (List.mem_append_right _ (List.mem_append_right _ (List.mem_append_right _ (List.mem_append_right _ (List.mem_append_right _ (List.mem_append_right _ (List.mem_append_left _ (List.mem_of_getElem? (i := 204) (by decide +kernel)))))))))) rfl
theorem jl_RL_94 : Cond.methodLink RL 94 yX11_rings ∈ lw_g := lw_in (List.mem_append_right _ (List.mem_append_right _ (List.mem_append_right _ (List.mem_append_right _ (List.mem_append_left _ (List.mem_of_getElem? (i := 233) (by decide +kernel))))))) rfl
theorem jl_RL_97 : Cond.methodLink RL 97 yX12_rings ∈ lw_g := lw_in (List.mem_append_right _ (List.mem_append_right _ (List.mem_append_right _ (List.mem_append_right _ (List.mem_append_right _ (List.mem_append_right _ (List.mem_append_right _ (List.mem_append_left _ (List.mem_of_getElem? (i := 208) (by decide +kernel)))))))))) rfl
theorem jl_RL_98 : Cond.methodLink RL 98 yX11_ahead ∈ lw_g := lw_in (List.mem_append_right _ (List.mem_append_right _ (List.mem_append_right _ (List.mem_append_right _ (List.mem_append_right _ (List.mem_append_left _ (List.mem_of_getElem? (i := 1) (by decide +kernel)))))))) rfl
theorem jm_X11_ahead : jVm RX11 yX11_ahead cX11_ahead 6 (some .int) 3 := ⟨lw_in (List.mem_append_right _ (List.mem_append_right _ (List.mem_append_right _ (List.mem_append_right _ (List.mem_append_right _ (List.mem_append_left _ (List.mem_of_getElem? (i := 2) (by decide +kernel)))))))) rfl, lw_in (List.mem_append_right _ (List.mem_append_right _ (List.mem_append_right _ (List.mem_append_right _ (List.mem_append_right _ (List.mem_append_left _ (List.mem_of_getElem? (i := 3) (by decide +kernel)))))))) rfl, lw_in (List.mem_append_right _ (List.mem_append_left _ (List.mem_of_getElem? (i := 1) (by decide +kernel)))) rfl, lw_in (List.mem_append_right _ (List.mem_append_right _ (List.mem_append_right _ (List.mem_append_right _ (List.mem_append_right _ (List.mem_append_left _ (List.mem_of_getElem? (i := 4) (by decide +kernel)))))))) rfl, by decide +kernel⟩
theorem jm_X11_back : jVm RX11 yX11_back cX11_back 2 (some .int) 1 := ⟨lw_in (List.mem_append_right _ (List.mem_append_right _ (List.mem_append_right _ (List.mem_append_right _ (List.mem_append_right _ (List.mem_append_left _ (List.mem_of_getElem? (i := 178) (by decide +kernel)))))))) rfl, lw_in (List.mem_append_right _ (List.mem_append_right _ (List.mem_append_right _ (List.mem_append_right _ (List.mem_append_right _ (List.mem_append_left _ (List.mem_of_getElem? (i := 179) (by decide +kernel)))))))) rfl, lw_in (List.mem_append_right _ (List.mem_append_left _ (List.mem_of_getElem? (i := 1) (by decide +kernel)))) rfl, lw_in (List.mem_append_right _ (List.mem_append_right _ (List.mem_append_right _ (List.mem_append_right _ (List.mem_append_right _ (List.mem_append_left _ (List.mem_of_getElem? (i := 180) (by decide +kernel)))))))) rfl, by decide +kernel⟩
theorem jm_X11_birth : jVm RX11 yX11_birth cX11_birth 2 (some .int) 1 := ⟨lw_in (List.mem_append_right _ (List.mem_append_right _ (List.mem_append_right _ (List.mem_append_right _ (List.mem_append_left _ (List.mem_of_getElem? (i := 136) (by decide +kernel))))))) rfl, lw_in (List.mem_append_right _ (List.mem_append_right _ (List.mem_append_right _ (List.mem_append_right _ (List.mem_append_left _ (List.mem_of_getElem? (i := 137) (by decide +kernel))))))) rfl, lw_in (List.mem_append_right _ (List.mem_append_left _ (List.mem_of_getElem? (i := 1) (by decide +kernel)))) rfl, lw_in (List.mem_append_right _ (List.mem_append_right _ (List.mem_append_right _ (List.mem_append_right _ (List.mem_append_left _ (List.mem_of_getElem? (i := 138) (by decide +kernel))))))) rfl, by decide +kernel⟩
theorem jm_X11_comes : jVm RX11 yX11_comes cX11_comes 3 (some .int) 2 := ⟨lw_in (List.mem_append_right _ (List.mem_append_right _ (List.mem_append_right _ (List.mem_append_right _ (List.mem_append_left _ (List.mem_of_getElem? (i := 226) (by decide +kernel))))))) rfl, lw_in (List.mem_append_right _ (List.mem_append_right _ (List.mem_append_right _ (List.mem_append_right _ (List.mem_append_left _ (List.mem_of_getElem? (i := 227) (by decide +kernel))))))) rfl, lw_in (List.mem_append_right _ (List.mem_append_left _ (List.mem_of_getElem? (i := 1) (by decide +kernel)))) rfl, lw_in (List.mem_append_right _ (List.mem_append_right _ (List.mem_append_right _ (List.mem_append_right _ (List.mem_append_left _ (List.mem_of_getElem? (i := 228) (by decide +kernel))))))) rfl, by decide +kernel⟩
theorem jm_X11_count : jVm RX11 yX11_count cX11_count 2 (some .int) 1 := ⟨lw_in (List.mem_append_right _ (List.mem_append_right _ (List.mem_append_right _ (List.mem_append_right _ (List.mem_append_left _ (List.mem_of_getElem? (i := 5) (by decide +kernel))))))) rfl, lw_in (List.mem_append_right _ (List.mem_append_right _ (List.mem_append_right _ (List.mem_append_right _ (List.mem_append_left _ (List.mem_of_getElem? (i := 6) (by decide +kernel))))))) rfl, lw_in (List.mem_append_right _ (List.mem_append_left _ (List.mem_of_getElem? (i := 1) (by decide +kernel)))) rfl, lw_in (List.mem_append_right _ (List.mem_append_right _ (List.mem_append_right _ (List.mem_append_right _ (List.mem_append_left _ (List.mem_of_getElem? (i := 7) (by decide +kernel))))))) rfl, by decide +kernel⟩
theorem jm_X11_depths : jVm RX11 yX11_depths cX11_depths 4 (some .int) 2 := ⟨lw_in (List.mem_append_right _ (List.mem_append_right _ (List.mem_append_right _ (List.mem_append_right _ (List.mem_append_right _ (List.mem_append_left _ (List.mem_of_getElem? (i := 80) (by decide +kernel)))))))) rfl, lw_in (List.mem_append_right _ (List.mem_append_right _ (List.mem_append_right _ (List.mem_append_right _ (List.mem_append_right _ (List.mem_append_left _ (List.mem_of_getElem? (i := 81) (by decide +kernel)))))))) rfl, lw_in (List.mem_append_right _ (List.mem_append_left _ (List.mem_of_getElem? (i := 1) (by decide +kernel)))) rfl, lw_in (List.mem_append_right _ (List.mem_append_right _ (List.mem_append_right _ (List.mem_append_right _ (List.mem_append_right _ (List.mem_append_left _ (List.mem_of_getElem? (i := 82) (by decide +kernel)))))))) rfl, by decide +kernel⟩
theorem jm_X11_dig : jVm RX11 yX11_dig cX11_dig 3 (some .int) 2 := ⟨lw_in (List.mem_append_right _ (List.mem_append_right _ (List.mem_append_right _ (List.mem_append_right _ (List.mem_append_left _ (List.mem_of_getElem? (i := 131) (by decide +kernel))))))) rfl, lw_in (List.mem_append_right _ (List.mem_append_right _ (List.mem_append_right _ (List.mem_append_right _ (List.mem_append_left _ (List.mem_of_getElem? (i := 132) (by decide +kernel))))))) rfl, lw_in (List.mem_append_right _ (List.mem_append_left _ (List.mem_of_getElem? (i := 1) (by decide +kernel)))) rfl, lw_in (List.mem_append_right _ (List.mem_append_right _ (List.mem_append_right _ (List.mem_append_right _ (List.mem_append_left _ (List.mem_of_getElem? (i := 133) (by decide +kernel))))))) rfl, by decide +kernel⟩
theorem jm_X11_droughts : jVm RX11 yX11_droughts cX11_droughts 9 (some .int) 4 := ⟨lw_in (List.mem_append_right _ (List.mem_append_right _ (List.mem_append_right _ (List.mem_append_right _ (List.mem_append_right _ (List.mem_append_left _ (List.mem_of_getElem? (i := 147) (by decide +kernel)))))))) rfl, lw_in (List.mem_append_right _ (List.mem_append_right _ (List.mem_append_right _ (List.mem_append_right _ (List.mem_append_right _ (List.mem_append_left _ (List.mem_of_getElem? (i := 148) (by decide +kernel)))))))) rfl, lw_in (List.mem_append_right _ (List.mem_append_left _ (List.mem_of_getElem? (i := 1) (by decide +kernel)))) rfl, lw_in (List.mem_append_right _ (List.mem_append_right _ (List.mem_append_right _ (List.mem_append_right _ (List.mem_append_right _ (List.mem_append_left _ (List.mem_of_getElem? (i := 149) (by decide +kernel)))))))) rfl, by decide +kernel⟩
theorem jm_X11_dry : jVm RX11 yX11_dry cX11_dry 2 (some .int) 1 := ⟨lw_in (List.mem_append_right _ (List.mem_append_right _ (List.mem_append_right _ (List.mem_append_right _ (List.mem_append_right _ (List.mem_append_left _ (List.mem_of_getElem? (i := 16) (by decide +kernel)))))))) rfl, lw_in (List.mem_append_right _ (List.mem_append_right _ (List.mem_append_right _ (List.mem_append_right _ (List.mem_append_right _ (List.mem_append_left _ (List.mem_of_getElem? (i := 17) (by decide +kernel)))))))) rfl, lw_in (List.mem_append_right _ (List.mem_append_left _ (List.mem_of_getElem? (i := 1) (by decide +kernel)))) rfl, lw_in (List.mem_append_right _ (List.mem_append_right _ (List.mem_append_right _ (List.mem_append_right _ (List.mem_append_right _ (List.mem_append_left _ (List.mem_of_getElem? (i := 18) (by decide +kernel)))))))) rfl, by decide +kernel⟩
theorem jm_X11_end : jVm RX11 yX11_end cX11_end 2 (some .int) 1 := ⟨lw_in (List.mem_append_right _ (List.mem_append_right _ (List.mem_append_left _ (List.mem_of_getElem? (i := 169) (by decide +kernel))))) rfl, lw_in (List.mem_append_right _ (List.mem_append_right _ (List.mem_append_left _ (List.mem_of_getElem? (i := 170) (by decide +kernel))))) rfl, lw_in (List.mem_append_right _ (List.mem_append_left _ (List.mem_of_getElem? (i := 1) (by decide +kernel)))) rfl, lw_in (List.mem_append_right _ (List.mem_append_right _ (List.mem_append_left _ (List.mem_of_getElem? (i := 171) (by decide +kernel))))) rfl, by decide +kernel⟩
theorem jm_X11_farm : jVm RX11 yX11_farm cX11_farm 3 (some .int) 2 := ⟨lw_in (List.mem_append_right _ (List.mem_append_right _ (List.mem_append_right _ (List.mem_append_left _ (List.mem_of_getElem? (i := 229) (by decide +kernel)))))) rfl, lw_in (List.mem_append_right _ (List.mem_append_right _ (List.mem_append_right _ (List.mem_append_left _ (List.mem_of_getElem? (i := 230) (by decide +kernel)))))) rfl, lw_in (List.mem_append_right _ (List.mem_append_left _ (List.mem_of_getElem? (i := 1) (by decide +kernel)))) rfl, lw_in (List.mem_append_right _ (List.mem_append_right _ (List.mem_append_right _ (List.mem_append_left _ (List.mem_of_getElem? (i := 231) (by decide +kernel)))))) rfl, by decide +kernel⟩
theorem jm_X11_farthest : jVm RX11 yX11_farthest cX11_farthest 2 (some .int) 1 := ⟨lw_in (List.mem_append_right _ (List.mem_append_right _ (List.mem_append_right _ (List.mem_append_right _ (List.mem_append_left _ (List.mem_of_getElem? (i := 211) (by decide +kernel))))))) rfl, lw_in (List.mem_append_right _ (List.mem_append_right _ (List.mem_append_right _ (List.mem_append_right _ (List.mem_append_left _ (List.mem_of_getElem? (i := 212) (by decide +kernel))))))) rfl, lw_in (List.mem_append_right _ (List.mem_append_left _ (List.mem_of_getElem? (i := 1) (by decide +kernel)))) rfl, lw_in (List.mem_append_right _ (List.mem_append_right _ (List.mem_append_right _ (List.mem_append_right _ (List.mem_append_left _ (List.mem_of_getElem? (i := 213) (by decide +kernel))))))) rfl, by decide +kernel⟩
theorem jm_X11_feed : jVm RX11 yX11_feed cX11_feed 6 (some .int) 5 := ⟨lw_in (List.mem_append_right _ (List.mem_append_right _ (List.mem_append_left _ (List.mem_of_getElem? (i := 161) (by decide +kernel))))) rfl, lw_in (List.mem_append_right _ (List.mem_append_right _ (List.mem_append_left _ (List.mem_of_getElem? (i := 162) (by decide +kernel))))) rfl, lw_in (List.mem_append_right _ (List.mem_append_left _ (List.mem_of_getElem? (i := 1) (by decide +kernel)))) rfl, lw_in (List.mem_append_right _ (List.mem_append_right _ (List.mem_append_left _ (List.mem_of_getElem? (i := 163) (by decide +kernel))))) rfl, by decide +kernel⟩
theorem jm_X11_fewest : jVm RX11 yX11_fewest cX11_fewest 2 (some .int) 1 := ⟨lw_in (List.mem_append_right _ (List.mem_append_right _ (List.mem_append_right _ (List.mem_append_right _ (List.mem_append_left _ (List.mem_of_getElem? (i := 149) (by decide +kernel))))))) rfl, lw_in (List.mem_append_right _ (List.mem_append_right _ (List.mem_append_right _ (List.mem_append_right _ (List.mem_append_left _ (List.mem_of_getElem? (i := 150) (by decide +kernel))))))) rfl, lw_in (List.mem_append_right _ (List.mem_append_left _ (List.mem_of_getElem? (i := 1) (by decide +kernel)))) rfl, lw_in (List.mem_append_right _ (List.mem_append_right _ (List.mem_append_right _ (List.mem_append_right _ (List.mem_append_left _ (List.mem_of_getElem? (i := 151) (by decide +kernel))))))) rfl, by decide +kernel⟩
theorem jm_X11_force : jVm RX11 yX11_force cX11_force 3 (some .int) 1 := ⟨lw_in (List.mem_append_right _ (List.mem_append_right _ (List.mem_append_right _ (List.mem_append_left _ (List.mem_of_getElem? (i := 206) (by decide +kernel)))))) rfl, lw_in (List.mem_append_right _ (List.mem_append_right _ (List.mem_append_right _ (List.mem_append_left _ (List.mem_of_getElem? (i := 207) (by decide +kernel)))))) rfl, lw_in (List.mem_append_right _ (List.mem_append_left _ (List.mem_of_getElem? (i := 1) (by decide +kernel)))) rfl, lw_in (List.mem_append_right _ (List.mem_append_right _ (List.mem_append_right _ (List.mem_append_left _ (List.mem_of_getElem? (i := 208) (by decide +kernel)))))) rfl, by decide +kernel⟩
theorem jm_X11_heir : jVm RX11 yX11_heir cX11_heir 4 (some .int) 2 := ⟨lw_in (List.mem_append_right _ (List.mem_append_right _ (List.mem_append_right _ (List.mem_append_right _ (List.mem_append_right _ (List.mem_append_left _ (List.mem_of_getElem? (i := 33) (by decide +kernel)))))))) rfl, lw_in (List.mem_append_right _ (List.mem_append_right _ (List.mem_append_right _ (List.mem_append_right _ (List.mem_append_right _ (List.mem_append_left _ (List.mem_of_getElem? (i := 34) (by decide +kernel)))))))) rfl, lw_in (List.mem_append_right _ (List.mem_append_left _ (List.mem_of_getElem? (i := 1) (by decide +kernel)))) rfl, lw_in (List.mem_append_right _ (List.mem_append_right _ (List.mem_append_right _ (List.mem_append_right _ (List.mem_append_right _ (List.mem_append_left _ (List.mem_of_getElem? (i := 35) (by decide +kernel)))))))) rfl, by decide +kernel⟩
theorem jm_X11_home : jVm RX11 yX11_home cX11_home 1 (some .int) 0 := ⟨lw_in (List.mem_append_right _ (List.mem_append_right _ (List.mem_append_right _ (List.mem_append_right _ (List.mem_append_right _ (List.mem_append_left _ (List.mem_of_getElem? (i := 24) (by decide +kernel)))))))) rfl, lw_in (List.mem_append_right _ (List.mem_append_right _ (List.mem_append_right _ (List.mem_append_right _ (List.mem_append_right _ (List.mem_append_left _ (List.mem_of_getElem? (i := 25) (by decide +kernel)))))))) rfl, lw_in (List.mem_append_right _ (List.mem_append_left _ (List.mem_of_getElem? (i := 1) (by decide +kernel)))) rfl, lw_in (List.mem_append_right _ (List.mem_append_right _ (List.mem_append_right _ (List.mem_append_right _ (List.mem_append_right _ (List.mem_append_left _ (List.mem_of_getElem? (i := 26) (by decide +kernel)))))))) rfl, by decide +kernel⟩
theorem jm_X11_image : jVm RX11 yX11_image cX11_image 2 (some .int) 1 := ⟨lw_in (List.mem_append_right _ (List.mem_append_right _ (List.mem_append_right _ (List.mem_append_right _ (List.mem_append_right _ (List.mem_append_left _ (List.mem_of_getElem? (i := 163) (by decide +kernel)))))))) rfl, lw_in (List.mem_append_right _ (List.mem_append_right _ (List.mem_append_right _ (List.mem_append_right _ (List.mem_append_right _ (List.mem_append_left _ (List.mem_of_getElem? (i := 164) (by decide +kernel)))))))) rfl, lw_in (List.mem_append_right _ (List.mem_append_left _ (List.mem_of_getElem? (i := 1) (by decide +kernel)))) rfl, lw_in (List.mem_append_right _ (List.mem_append_right _ (List.mem_append_right _ (List.mem_append_right _ (List.mem_append_right _ (List.mem_append_left _ (List.mem_of_getElem? (i := 165) (by decide +kernel)))))))) rfl, by decide +kernel⟩
theorem jm_X11_lie : jVm RX11 yX11_lie cX11_lie 1 (some .int) 0 := ⟨lw_in (List.mem_append_right _ (List.mem_append_right _ (List.mem_append_right _ (List.mem_append_left _ (List.mem_of_getElem? (i := 233) (by decide +kernel)))))) rfl, lw_in (List.mem_append_right _ (List.mem_append_right _ (List.mem_append_right _ (List.mem_append_left _ (List.mem_of_getElem? (i := 234) (by decide +kernel)))))) rfl, lw_in (List.mem_append_right _ (List.mem_append_left _ (List.mem_of_getElem? (i := 1) (by decide +kernel)))) rfl, lw_in (List.mem_append_right _ (List.mem_append_right _ (List.mem_append_right _ (List.mem_append_left _ (List.mem_of_getElem? (i := 235) (by decide +kernel)))))) rfl, by decide +kernel⟩
theorem jm_X11_lies : jVm RX11 yX11_lies cX11_lies 2 (some .int) 1 := ⟨lw_in (List.mem_append_right _ (List.mem_append_right _ (List.mem_append_right _ (List.mem_append_right _ (List.mem_append_left _ (List.mem_of_getElem? (i := 203) (by decide +kernel))))))) rfl, lw_in (List.mem_append_right _ (List.mem_append_right _ (List.mem_append_right _ (List.mem_append_right _ (List.mem_append_left _ (List.mem_of_getElem? (i := 204) (by decide +kernel))))))) rfl, lw_in (List.mem_append_right _ (List.mem_append_left _ (List.mem_of_getElem? (i := 1) (by decide +kernel)))) rfl, lw_in (List.mem_append_right _ (List.mem_append_right _ (List.mem_append_right _ (List.mem_append_right _ (List.mem_append_left _ (List.mem_of_getElem? (i := 205) (by decide +kernel))))))) rfl, by decide +kernel⟩
theorem jm_X11_look : jVm RX11 yX11_look cX11_look 5 (some .int) 2 := ⟨lw_in (List.mem_append_right _ (List.mem_append_right _ (List.mem_append_right _ (List.mem_append_right _ (List.mem_append_right _ (List.mem_append_left _ (List.mem_of_getElem? (i := 126) (by decide +kernel)))))))) rfl, lw_in (List.mem_append_right _ (List.mem_append_right _ (List.mem_append_right _ (List.mem_append_right _ (List.mem_append_right _ (List.mem_append_left _ (List.mem_of_getElem? (i := 127) (by decide +kernel)))))))) rfl, lw_in (List.mem_append_right _ (List.mem_append_left _ (List.mem_of_getElem? (i := 1) (by decide +kernel)))) rfl, lw_in (List.mem_append_right _ (List.mem_append_right _ (List.mem_append_right _ (List.mem_append_right _ (List.mem_append_right _ (List.mem_append_left _ (List.mem_of_getElem? (i := 128) (by decide +kernel)))))))) rfl, by decide +kernel⟩
theorem jm_X11_note : jVm RX11 yX11_note cX11_note 4 (some .int) 3 := ⟨lw_in (List.mem_append_right _ (List.mem_append_right _ (List.mem_append_right _ (List.mem_append_right _ (List.mem_append_right _ (List.mem_append_left _ (List.mem_of_getElem? (i := 72) (by decide +kernel)))))))) rfl, lw_in (List.mem_append_right _ (List.mem_append_right _ (List.mem_append_right _ (List.mem_append_right _ (List.mem_append_right _ (List.mem_append_left _ (List.mem_of_getElem? (i := 73) (by decide +kernel)))))))) rfl, lw_in (List.mem_append_right _ (List.mem_append_left _ (List.mem_of_getElem? (i := 1) (by decide +kernel)))) rfl, lw_in (List.mem_append_right _ (List.mem_append_right _ (List.mem_append_right _ (List.mem_append_right _ (List.mem_append_right _ (List.mem_append_left _ (List.mem_of_getElem? (i := 74) (by decide +kernel)))))))) rfl, by decide +kernel⟩
theorem jm_X11_parish : jVm RX11 yX11_parish cX11_parish 2 (some .int) 0 := ⟨lw_in (List.mem_append_right _ (List.mem_append_right _ (List.mem_append_left _ (List.mem_of_getElem? (i := 173) (by decide +kernel))))) rfl, lw_in (List.mem_append_right _ (List.mem_append_right _ (List.mem_append_left _ (List.mem_of_getElem? (i := 174) (by decide +kernel))))) rfl, lw_in (List.mem_append_right _ (List.mem_append_left _ (List.mem_of_getElem? (i := 1) (by decide +kernel)))) rfl, lw_in (List.mem_append_right _ (List.mem_append_right _ (List.mem_append_left _ (List.mem_of_getElem? (i := 175) (by decide +kernel))))) rfl, by decide +kernel⟩
theorem jm_X11_pence : jVm RX11 yX11_pence cX11_pence 3 (some .int) 2 := ⟨lw_in (List.mem_append_right _ (List.mem_append_right _ (List.mem_append_right _ (List.mem_append_right _ (List.mem_append_right _ (List.mem_append_left _ (List.mem_of_getElem? (i := 63) (by decide +kernel)))))))) rfl, lw_in (List.mem_append_right _ (List.mem_append_right _ (List.mem_append_right _ (List.mem_append_right _ (List.mem_append_right _ (List.mem_append_left _ (List.mem_of_getElem? (i := 64) (by decide +kernel)))))))) rfl, lw_in (List.mem_append_right _ (List.mem_append_left _ (List.mem_of_getElem? (i := 1) (by decide +kernel)))) rfl, lw_in (List.mem_append_right _ (List.mem_append_right _ (List.mem_append_right _ (List.mem_append_right _ (List.mem_append_right _ (List.mem_append_left _ (List.mem_of_getElem? (i := 65) (by decide +kernel)))))))) rfl, by decide +kernel⟩
theorem jm_X11_pour : jVm RX11 yX11_pour cX11_pour 3 (some .int) 2 := ⟨lw_in (List.mem_append_right _ (List.mem_append_right _ (List.mem_append_right _ (List.mem_append_right _ (List.mem_append_left _ (List.mem_of_getElem? (i := 126) (by decide +kernel))))))) rfl, lw_in (List.mem_append_right _ (List.mem_append_right _ (List.mem_append_right _ (List.mem_append_right _ (List.mem_append_left _ (List.mem_of_getElem? (i := 127) (by decide +kernel))))))) rfl, lw_in (List.mem_append_right _ (List.mem_append_left _ (List.mem_of_getElem? (i := 1) (by decide +kernel)))) rfl, lw_in (List.mem_append_right _ (List.mem_append_right _ (List.mem_append_right _ (List.mem_append_right _ (List.mem_append_left _ (List.mem_of_getElem? (i := 128) (by decide +kernel))))))) rfl, by decide +kernel⟩
theorem jm_X11_rests : jVm RX11 yX11_rests cX11_rests 6 (some .int) 4 := ⟨lw_in (List.mem_append_right _ (List.mem_append_right _ (List.mem_append_right _ (List.mem_append_right _ (List.mem_append_right _ (List.mem_append_left _ (List.mem_of_getElem? (i := 42) (by decide +kernel)))))))) rfl, lw_in (List.mem_append_right _ (List.mem_append_right _ (List.mem_append_right _ (List.mem_append_right _ (List.mem_append_right _ (List.mem_append_left _ (List.mem_of_getElem? (i := 43) (by decide +kernel)))))))) rfl, lw_in (List.mem_append_right _ (List.mem_append_left _ (List.mem_of_getElem? (i := 1) (by decide +kernel)))) rfl, lw_in (List.mem_append_right _ (List.mem_append_right _ (List.mem_append_right _ (List.mem_append_right _ (List.mem_append_right _ (List.mem_append_left _ (List.mem_of_getElem? (i := 44) (by decide +kernel)))))))) rfl, by decide +kernel⟩
theorem jm_X11_rings : jVm RX11 yX11_rings cX11_rings 3 (some .int) 1 := ⟨lw_in (List.mem_append_right _ (List.mem_append_right _ (List.mem_append_right _ (List.mem_append_right _ (List.mem_append_left _ (List.mem_of_getElem? (i := 234) (by decide +kernel))))))) rfl, lw_in (List.mem_append_right _ (List.mem_append_right _ (List.mem_append_right _ (List.mem_append_right _ (List.mem_append_left _ (List.mem_of_getElem? (i := 235) (by decide +kernel))))))) rfl, lw_in (List.mem_append_right _ (List.mem_append_left _ (List.mem_of_getElem? (i := 1) (by decide +kernel)))) rfl, lw_in (List.mem_append_right _ (List.mem_append_right _ (List.mem_append_right _ (List.mem_append_right _ (List.mem_append_left _ (List.mem_of_getElem? (i := 236) (by decide +kernel))))))) rfl, by decide +kernel⟩
theorem jm_X11_rule : jVm RX11 yX11_rule cX11_rule 2 (some .int) 0 := ⟨lw_in (List.mem_append_right _ (List.mem_append_right _ (List.mem_append_right _ (List.mem_append_left _ (List.mem_of_getElem? (i := 140) (by decide +kernel)))))) rfl, lw_in (List.mem_append_right _ (List.mem_append_right _ (List.mem_append_right _ (List.mem_append_left _ (List.mem_of_getElem? (i := 141) (by decide +kernel)))))) rfl, lw_in (List.mem_append_right _ (List.mem_append_left _ (List.mem_of_getElem? (i := 1) (by decide +kernel)))) rfl, lw_in (List.mem_append_right _ (List.mem_append_right _ (List.mem_append_right _ (List.mem_append_left _ (List.mem_of_getElem? (i := 142) (by decide +kernel)))))) rfl, by decide +kernel⟩
theorem jm_X11_ruled : jVm RX11 yX11_ruled cX11_ruled 3 (some .int) 1 := ⟨lw_in (List.mem_append_right _ (List.mem_append_right _ (List.mem_append_right _ (List.mem_append_right _ (List.mem_append_right _ (List.mem_append_left _ (List.mem_of_getElem? (i := 110) (by decide +kernel)))))))) rfl, lw_in (List.mem_append_right _ (List.mem_append_right _ (List.mem_append_right _ (List.mem_append_right _ (List.mem_append_right _ (List.mem_append_left _ (List.mem_of_getElem? (i := 111) (by decide +kernel)))))))) rfl, lw_in (List.mem_append_right _ (List.mem_append_left _ (List.mem_of_getElem? (i := 1) (by decide +kernel)))) rfl, lw_in (List.mem_append_right _ (List.mem_append_right _ (List.mem_append_right _ (List.mem_append_right _ (List.mem_append_right _ (List.mem_append_left _ (List.mem_of_getElem? (i := 112) (by decide +kernel)))))))) rfl, by decide +kernel⟩
theorem jm_X11_seed : jVm RX11 yX11_seed cX11_seed 3 (some .int) 1 := ⟨lw_in (List.mem_append_right _ (List.mem_append_right _ (List.mem_append_right _ (List.mem_append_right _ (List.mem_append_right _ (List.mem_append_left _ (List.mem_of_getElem? (i := 143) (by decide +kernel)))))))) rfl, lw_in (List.mem_append_right _ (List.mem_append_right _ (List.mem_append_right _ (List.mem_append_right _ (List.mem_append_right _ (List.mem_append_left _ (List.mem_of_getElem? (i := 144) (by decide +kernel)))))))) rfl, lw_in (List.mem_append_right _ (List.mem_append_left _ (List.mem_of_getElem? (i := 1) (by decide +kernel)))) rfl, lw_in (List.mem_append_right _ (List.mem_append_right _ (List.mem_append_right _ (List.mem_append_right _ (List.mem_append_right _ (List.mem_append_left _ (List.mem_of_getElem? (i := 145) (by decide +kernel)))))))) rfl, by decide +kernel⟩
theorem jm_X11_step : jVm RX11 yX11_step cX11_step 5 (some .int) 3 := ⟨lw_in (List.mem_append_right _ (List.mem_append_right _ (List.mem_append_right _ (List.mem_append_right _ (List.mem_append_left _ (List.mem_of_getElem? (i := 186) (by decide +kernel))))))) rfl, lw_in (List.mem_append_right _ (List.mem_append_right _ (List.mem_append_right _ (List.mem_append_right _ (List.mem_append_left _ (List.mem_of_getElem? (i := 187) (by decide +kernel))))))) rfl, lw_in (List.mem_append_right _ (List.mem_append_left _ (List.mem_of_getElem? (i := 1) (by decide +kernel)))) rfl, lw_in (List.mem_append_right _ (List.mem_append_right _ (List.mem_append_right _ (List.mem_append_right _ (List.mem_append_left _ (List.mem_of_getElem? (i := 188) (by decide +kernel))))))) rfl, by decide +kernel⟩
theorem jm_X11_tastes : jVm RX11 yX11_tastes cX11_tastes 4 (some .int) 2 := ⟨lw_in (List.mem_append_right _ (List.mem_append_right _ (List.mem_append_right _ (List.mem_append_right _ (List.mem_append_right _ (List.mem_append_left _ (List.mem_of_getElem? (i := 102) (by decide +kernel)))))))) rfl, lw_in (List.mem_append_right _ (List.mem_append_right _ (List.mem_append_right _ (List.mem_append_right _ (List.mem_append_right _ (List.mem_append_left _ (List.mem_of_getElem? (i := 103) (by decide +kernel)))))))) rfl, lw_in (List.mem_append_right _ (List.mem_append_left _ (List.mem_of_getElem? (i := 1) (by decide +kernel)))) rfl, lw_in (List.mem_append_right _ (List.mem_append_right _ (List.mem_append_right _ (List.mem_append_right _ (List.mem_append_right _ (List.mem_append_left _ (List.mem_of_getElem? (i := 104) (by decide +kernel)))))))) rfl, by decide +kernel⟩
theorem jm_X11_undo : jVm RX11 yX11_undo cX11_undo 1 (some .int) 0 := ⟨lw_in (List.mem_append_right _ (List.mem_append_right _ (List.mem_append_right _ (List.mem_append_right _ (List.mem_append_left _ (List.mem_of_getElem? (i := 141) (by decide +kernel))))))) rfl, lw_in (List.mem_append_right _ (List.mem_append_right _ (List.mem_append_right _ (List.mem_append_right _ (List.mem_append_left _ (List.mem_of_getElem? (i := 142) (by decide +kernel))))))) rfl, lw_in (List.mem_append_right _ (List.mem_append_left _ (List.mem_of_getElem? (i := 1) (by decide +kernel)))) rfl, lw_in (List.mem_append_right _ (List.mem_append_right _ (List.mem_append_right _ (List.mem_append_right _ (List.mem_append_left _ (List.mem_of_getElem? (i := 143) (by decide +kernel))))))) rfl, by decide +kernel⟩
theorem jm_X11_wed : jVm RX11 yX11_wed cX11_wed 3 (some .int) 2 := ⟨lw_in (List.mem_append_right _ (List.mem_append_right _ (List.mem_append_right _ (List.mem_append_right _ (List.mem_append_left _ (List.mem_of_getElem? (i := 119) (by decide +kernel))))))) rfl, lw_in (List.mem_append_right _ (List.mem_append_right _ (List.mem_append_right _ (List.mem_append_right _ (List.mem_append_left _ (List.mem_of_getElem? (i := 120) (by decide +kernel))))))) rfl, lw_in (List.mem_append_right _ (List.mem_append_left _ (List.mem_of_getElem? (i := 1) (by decide +kernel)))) rfl, lw_in (List.mem_append_right _ (List.mem_append_right _ (List.mem_append_right _ (List.mem_append_right _ (List.mem_append_left _ (List.mem_of_getElem? (i := 121) (by decide +kernel))))))) rfl, by decide +kernel⟩
theorem jm_X11_well : jVm RX11 yX11_well cX11_well 3 (some .int) 2 := ⟨lw_in (List.mem_append_right _ (List.mem_append_right _ (List.mem_append_right _ (List.mem_append_left _ (List.mem_of_getElem? (i := 213) (by decide +kernel)))))) rfl, lw_in (List.mem_append_right _ (List.mem_append_right _ (List.mem_append_right _ (List.mem_append_left _ (List.mem_of_getElem? (i := 214) (by decide +kernel)))))) rfl, lw_in (List.mem_append_right _ (List.mem_append_left _ (List.mem_of_getElem? (i := 1) (by decide +kernel)))) rfl, lw_in (List.mem_append_right _ (List.mem_append_right _ (List.mem_append_right _ (List.mem_append_left _ (List.mem_of_getElem? (i := 215) (by decide +kernel)))))) rfl, by decide +kernel⟩
theorem jm_X11_year : jVm RX11 yX11_year cX11_year 1 (some .int) 0 := ⟨lw_in (List.mem_append_right _ (List.mem_append_right _ (List.mem_append_right _ (List.mem_append_right _ (List.mem_append_left _ (List.mem_of_getElem? (i := 33) (by decide +kernel))))))) rfl, lw_in (List.mem_append_right _ (List.mem_append_right _ (List.mem_append_right _ (List.mem_append_right _ (List.mem_append_left _ (List.mem_of_getElem? (i := 34) (by decide +kernel))))))) rfl, lw_in (List.mem_append_right _ (List.mem_append_left _ (List.mem_of_getElem? (i := 1) (by decide +kernel)))) rfl, lw_in (List.mem_append_right _ (List.mem_append_right _ (List.mem_append_right _ (List.mem_append_right _ (List.mem_append_left _ (List.mem_of_getElem? (i := 35) (by decide +kernel))))))) rfl, by decide +kernel⟩
theorem jm_X12_ahead : jVm RX12 yX12_ahead cX12_ahead 5 (some .int) 3 := ⟨lw_in (List.mem_append_right _ (List.mem_append_right _ (List.mem_append_right _ (List.mem_append_right _ (List.mem_append_right _ (List.mem_append_right _ (List.mem_append_right _ (List.mem_append_left _ (List.mem_of_getElem? (i := 213) (by decide +kernel)))))))))) rfl, lw_in (List.mem_append_right _ (List.mem_append_right _ (List.mem_append_right _ (List.mem_append_right _ (List.mem_append_right _ (List.mem_append_right _ (List.mem_append_right _ (List.mem_append_left _ (List.mem_of_getElem? (i := 214) (by decide +kernel)))))))))) rfl, lw_in (List.mem_append_right _ (List.mem_append_left _ (List.mem_of_getElem? (i := 13) (by decide +kernel)))) rfl, lw_in (List.mem_append_right _ (List.mem_append_right _ (List.mem_append_right _ (List.mem_append_right _ (List.mem_append_right _ (List.mem_append_right _ (List.mem_append_right _ (List.mem_append_left _ (List.mem_of_getElem? (i := 215) (by decide +kernel)))))))))) rfl, by decide +kernel⟩
theorem jm_X12_back : jVm RX12 yX12_back cX12_back 3 (some .int) 1 := ⟨lw_in (List.mem_append_right _ (List.mem_append_right _ (List.mem_append_right _ (List.mem_append_right _ (List.mem_append_right _ (List.mem_append_right _ (List.mem_append_right _ (List.mem_append_right _ (List.mem_of_getElem? (i := 117) (by decide +kernel)))))))))) rfl, lw_in (List.mem_append_right _ (List.mem_append_right _ (List.mem_append_right _ (List.mem_append_right _ (List.mem_append_right _ (List.mem_append_right _ (List.mem_append_right _ (List.mem_append_right _ (List.mem_of_getElem? (i := 118) (by decide +kernel)))))))))) rfl, lw_in (List.mem_append_right _ (List.mem_append_left _ (List.mem_of_getElem? (i := 13) (by decide +kernel)))) rfl, lw_in (List.mem_append_right _ (List.mem_append_right _ (List.mem_append_right _ (List.mem_append_right _ (List.mem_append_right _ (List.mem_append_right _ (List.mem_append_right _ (List.mem_append_right _ (List.mem_of_getElem? (i := 119) (by decide +kernel)))))))))) rfl, by decide +kernel⟩
theorem jm_X12_birth : jVm RX12 yX12_birth cX12_birth 2 (some .int) 1 := ⟨lw_in (List.mem_append_right _ (List.mem_append_right _ (List.mem_append_right _ (List.mem_append_right _ (List.mem_append_right _ (List.mem_append_right _ (List.mem_append_right _ (List.mem_append_left _ (List.mem_of_getElem? (i := 146) (by decide +kernel)))))))))) rfl, lw_in (List.mem_append_right _ (List.mem_append_right _ (List.mem_append_right _ (List.mem_append_right _ (List.mem_append_right _ (List.mem_append_right _ (List.mem_append_right _ (List.mem_append_left _ (List.mem_of_getElem? (i := 147) (by decide +kernel)))))))))) rfl, lw_in (List.mem_append_right _ (List.mem_append_left _ (List.mem_of_getElem? (i := 13) (by decide +kernel)))) rfl, lw_in (List.mem_append_right _ (List.mem_append_right _ (List.mem_append_right _ (List.mem_append_right _ (List.mem_append_right _ (List.mem_append_right _ (List.mem_append_right _ (List.mem_append_left _ (List.mem_of_getElem? (i := 148) (by decide +kernel)))))))))) rfl, by decide +kernel⟩
theorem jm_X12_comes : jVm RX12 yX12_comes cX12_comes 7 (some .int) 2 := ⟨lw_in (List.mem_append_right _ (List.mem_append_right _ (List.mem_append_right _ (List.mem_append_right _ (List.mem_append_right _ (List.mem_append_right _ (List.mem_append_right _ (List.mem_append_left _ (List.mem_of_getElem? (i := 205) (by decide +kernel)))))))))) rfl, lw_in (List.mem_append_right _ (List.mem_append_right _ (List.mem_append_right _ (List.mem_append_right _ (List.mem_append_right _ (List.mem_append_right _ (List.mem_append_right _ (List.mem_append_left _ (List.mem_of_getElem? (i := 206) (by decide +kernel)))))))))) rfl, lw_in (List.mem_append_right _ (List.mem_append_left _ (List.mem_of_getElem? (i := 13) (by decide +kernel)))) rfl, lw_in (List.mem_append_right _ (List.mem_append_right _ (List.mem_append_right _ (List.mem_append_right _ (List.mem_append_right _ (List.mem_append_right _ (List.mem_append_right _ (List.mem_append_left _ (List.mem_of_getElem? (i := 207) (by decide +kernel)))))))))) rfl, by decide +kernel⟩
theorem jm_X12_count : jVm RX12 yX12_count cX12_count 2 (some .int) 1 := ⟨lw_in (List.mem_append_right _ (List.mem_append_right _ (List.mem_append_right _ (List.mem_append_right _ (List.mem_append_right _ (List.mem_append_right _ (List.mem_append_right _ (List.mem_append_right _ (List.mem_of_getElem? (i := 105) (by decide +kernel)))))))))) rfl, lw_in (List.mem_append_right _ (List.mem_append_right _ (List.mem_append_right _ (List.mem_append_right _ (List.mem_append_right _ (List.mem_append_right _ (List.mem_append_right _ (List.mem_append_right _ (List.mem_of_getElem? (i := 106) (by decide +kernel)))))))))) rfl, lw_in (List.mem_append_right _ (List.mem_append_left _ (List.mem_of_getElem? (i := 13) (by decide +kernel)))) rfl, lw_in (List.mem_append_right _ (List.mem_append_right _ (List.mem_append_right _ (List.mem_append_right _ (List.mem_append_right _ (List.mem_append_right _ (List.mem_append_right _ (List.mem_append_right _ (List.mem_of_getElem? (i := 107) (by decide +kernel)))))))))) rfl, by decide +kernel⟩
theorem jm_X12_depths : jVm RX12 yX12_depths cX12_depths 3 (some .int) 2 := ⟨lw_in (List.mem_append_right _ (List.mem_append_right _ (List.mem_append_right _ (List.mem_append_right _ (List.mem_append_right _ (List.mem_append_right _ (List.mem_append_right _ (List.mem_append_right _ (List.mem_of_getElem? (i := 76) (by decide +kernel)))))))))) rfl, lw_in (List.mem_append_right _ (List.mem_append_right _ (List.mem_append_right _ (List.mem_append_right _ (List.mem_append_right _ (List.mem_append_right _ (List.mem_append_right _ (List.mem_append_right _ (List.mem_of_getElem? (i := 77) (by decide +kernel)))))))))) rfl, lw_in (List.mem_append_right _ (List.mem_append_left _ (List.mem_of_getElem? (i := 13) (by decide +kernel)))) rfl, lw_in (List.mem_append_right _ (List.mem_append_right _ (List.mem_append_right _ (List.mem_append_right _ (List.mem_append_right _ (List.mem_append_right _ (List.mem_append_right _ (List.mem_append_right _ (List.mem_of_getElem? (i := 78) (by decide +kernel)))))))))) rfl, by decide +kernel⟩
theorem jm_X12_dig : jVm RX12 yX12_dig cX12_dig 3 (some .int) 2 := ⟨lw_in (List.mem_append_right _ (List.mem_append_right _ (List.mem_append_right _ (List.mem_append_right _ (List.mem_append_right _ (List.mem_append_right _ (List.mem_append_right _ (List.mem_append_left _ (List.mem_of_getElem? (i := 141) (by decide +kernel)))))))))) rfl, lw_in (List.mem_append_right _ (List.mem_append_right _ (List.mem_append_right _ (List.mem_append_right _ (List.mem_append_right _ (List.mem_append_right _ (List.mem_append_right _ (List.mem_append_left _ (List.mem_of_getElem? (i := 142) (by decide +kernel)))))))))) rfl, lw_in (List.mem_append_right _ (List.mem_append_left _ (List.mem_of_getElem? (i := 13) (by decide +kernel)))) rfl, lw_in (List.mem_append_right _ (List.mem_append_right _ (List.mem_append_right _ (List.mem_append_right _ (List.mem_append_right _ (List.mem_append_right _ (List.mem_append_right _ (List.mem_append_left _ (List.mem_of_getElem? (i := 143) (by decide +kernel)))))))))) rfl, by decide +kernel⟩
theorem jm_X12_droughts : jVm RX12 yX12_droughts cX12_droughts 9 (some .int) 4 := ⟨lw_in (List.mem_append_right _ (List.mem_append_right _ (List.mem_append_right _ (List.mem_append_right _ (List.mem_append_right _ (List.mem_append_right _ (List.mem_append_right _ (List.mem_append_right _ (List.mem_of_getElem? (i := 92) (by decide +kernel)))))))))) rfl, lw_in (List.mem_append_right _ (List.mem_append_right _ (List.mem_append_right _ (List.mem_append_right _ (List.mem_append_right _ (List.mem_append_right _ (List.mem_append_right _ (List.mem_append_right _ (List.mem_of_getElem? (i := 93) (by decide +kernel)))))))))) rfl, lw_in (List.mem_append_right _ (List.mem_append_left _ (List.mem_of_getElem? (i := 13) (by decide +kernel)))) rfl, lw_in (List.mem_append_right _ (List.mem_append_right _ (List.mem_append_right _ (List.mem_append_right _ (List.mem_append_right _ (List.mem_append_right _ (List.mem_append_right _ (List.mem_append_right _ (List.mem_of_getElem? (i := 94) (by decide +kernel)))))))))) rfl, by decide +kernel⟩
theorem jm_X12_dry : jVm RX12 yX12_dry cX12_dry 4 (some .int) 1 := ⟨lw_in (List.mem_append_right _ (List.mem_append_right _ (List.mem_append_right _ (List.mem_append_right _ (List.mem_append_right _ (List.mem_append_right _ (List.mem_append_right _ (List.mem_append_left _ (List.mem_of_getElem? (i := 236) (by decide +kernel)))))))))) rfl, lw_in (List.mem_append_right _ (List.mem_append_right _ (List.mem_append_right _ (List.mem_append_right _ (List.mem_append_right _ (List.mem_append_right _ (List.mem_append_right _ (List.mem_append_left _ (List.mem_of_getElem? (i := 237) (by decide +kernel)))))))))) rfl, lw_in (List.mem_append_right _ (List.mem_append_left _ (List.mem_of_getElem? (i := 13) (by decide +kernel)))) rfl, lw_in (List.mem_append_right _ (List.mem_append_right _ (List.mem_append_right _ (List.mem_append_right _ (List.mem_append_right _ (List.mem_append_right _ (List.mem_append_right _ (List.mem_append_left _ (List.mem_of_getElem? (i := 238) (by decide +kernel)))))))))) rfl, by decide +kernel⟩
theorem jm_X12_end : jVm RX12 yX12_end cX12_end 2 (some .int) 1 := ⟨lw_in (List.mem_append_right _ (List.mem_append_right _ (List.mem_append_right _ (List.mem_append_right _ (List.mem_append_right _ (List.mem_append_right _ (List.mem_append_left _ (List.mem_of_getElem? (i := 84) (by decide +kernel))))))))) rfl, lw_in (List.mem_append_right _ (List.mem_append_right _ (List.mem_append_right _ (List.mem_append_right _ (List.mem_append_right _ (List.mem_append_right _ (List.mem_append_left _ (List.mem_of_getElem? (i := 85) (by decide +kernel))))))))) rfl, lw_in (List.mem_append_right _ (List.mem_append_left _ (List.mem_of_getElem? (i := 13) (by decide +kernel)))) rfl, lw_in (List.mem_append_right _ (List.mem_append_right _ (List.mem_append_right _ (List.mem_append_right _ (List.mem_append_right _ (List.mem_append_right _ (List.mem_append_left _ (List.mem_of_getElem? (i := 86) (by decide +kernel))))))))) rfl, by decide +kernel⟩
theorem jm_X12_farm : jVm RX12 yX12_farm cX12_farm 3 (some .int) 2 := ⟨lw_in (List.mem_append_right _ (List.mem_append_right _ (List.mem_append_right _ (List.mem_append_right _ (List.mem_append_right _ (List.mem_append_right _ (List.mem_append_right _ (List.mem_append_left _ (List.mem_of_getElem? (i := 32) (by decide +kernel)))))))))) rfl, lw_in (List.mem_append_right _ (List.mem_append_right _ (List.mem_append_right _ (List.mem_append_right _ (List.mem_append_right _ (List.mem_append_right _ (List.mem_append_right _ (List.mem_append_left _ (List.mem_of_getElem? (i := 33) (by decide +kernel)))))))))) rfl, lw_in (List.mem_append_right _ (List.mem_append_left _ (List.mem_of_getElem? (i := 13) (by decide +kernel)))) rfl, lw_in (List.mem_append_right _ (List.mem_append_right _ (List.mem_append_right _ (List.mem_append_right _ (List.mem_append_right _ (List.mem_append_right _ (List.mem_append_right _ (List.mem_append_left _ (List.mem_of_getElem? (i := 34) (by decide +kernel)))))))))) rfl, by decide +kernel⟩
theorem jm_X12_farthest : jVm RX12 yX12_farthest cX12_farthest 5 (some .int) 1 := ⟨lw_in (List.mem_append_right _ (List.mem_append_right _ (List.mem_append_right _ (List.mem_append_right _ (List.mem_append_right _ (List.mem_append_right _ (List.mem_append_right _ (List.mem_append_left _ (List.mem_of_getElem? (i := 197) (by decide +kernel)))))))))) rfl, lw_in (List.mem_append_right _ (List.mem_append_right _ (List.mem_append_right _ (List.mem_append_right _ (List.mem_append_right _ (List.mem_append_right _ (List.mem_append_right _ (List.mem_append_left _ (List.mem_of_getElem? (i := 198) (by decide +kernel)))))))))) rfl, lw_in (List.mem_append_right _ (List.mem_append_left _ (List.mem_of_getElem? (i := 13) (by decide +kernel)))) rfl, lw_in (List.mem_append_right _ (List.mem_append_right _ (List.mem_append_right _ (List.mem_append_right _ (List.mem_append_right _ (List.mem_append_right _ (List.mem_append_right _ (List.mem_append_left _ (List.mem_of_getElem? (i := 199) (by decide +kernel)))))))))) rfl, by decide +kernel⟩
theorem jm_X12_feed : jVm RX12 yX12_feed cX12_feed 6 (some .int) 5 := ⟨lw_in (List.mem_append_right _ (List.mem_append_right _ (List.mem_append_right _ (List.mem_append_right _ (List.mem_append_right _ (List.mem_append_right _ (List.mem_append_left _ (List.mem_of_getElem? (i := 76) (by decide +kernel))))))))) rfl, lw_in (List.mem_append_right _ (List.mem_append_right _ (List.mem_append_right _ (List.mem_append_right _ (List.mem_append_right _ (List.mem_append_right _ (List.mem_append_left _ (List.mem_of_getElem? (i := 77) (by decide +kernel))))))))) rfl, lw_in (List.mem_append_right _ (List.mem_append_left _ (List.mem_of_getElem? (i := 13) (by decide +kernel)))) rfl, lw_in (List.mem_append_right _ (List.mem_append_right _ (List.mem_append_right _ (List.mem_append_right _ (List.mem_append_right _ (List.mem_append_right _ (List.mem_append_left _ (List.mem_of_getElem? (i := 78) (by decide +kernel))))))))) rfl, by decide +kernel⟩
theorem jm_X12_fewest : jVm RX12 yX12_fewest cX12_fewest 4 (some .int) 1 := ⟨lw_in (List.mem_append_right _ (List.mem_append_right _ (List.mem_append_right _ (List.mem_append_right _ (List.mem_append_right _ (List.mem_append_right _ (List.mem_append_right _ (List.mem_append_left _ (List.mem_of_getElem? (i := 150) (by decide +kernel)))))))))) rfl, lw_in (List.mem_append_right _ (List.mem_append_right _ (List.mem_append_right _ (List.mem_append_right _ (List.mem_append_right _ (List.mem_append_right _ (List.mem_append_right _ (List.mem_append_left _ (List.mem_of_getElem? (i := 151) (by decide +kernel)))))))))) rfl, lw_in (List.mem_append_right _ (List.mem_append_left _ (List.mem_of_getElem? (i := 13) (by decide +kernel)))) rfl, lw_in (List.mem_append_right _ (List.mem_append_right _ (List.mem_append_right _ (List.mem_append_right _ (List.mem_append_right _ (List.mem_append_right _ (List.mem_append_right _ (List.mem_append_left _ (List.mem_of_getElem? (i := 152) (by decide +kernel)))))))))) rfl, by decide +kernel⟩
theorem jm_X12_force : jVm RX12 yX12_force cX12_force 3 (some .int) 1 := ⟨lw_in (List.mem_append_right _ (List.mem_append_right _ (List.mem_append_right _ (List.mem_append_right _ (List.mem_append_right _ (List.mem_append_right _ (List.mem_append_right _ (List.mem_append_left _ (List.mem_of_getElem? (i := 12) (by decide +kernel)))))))))) rfl, lw_in (List.mem_append_right _ (List.mem_append_right _ (List.mem_append_right _ (List.mem_append_right _ (List.mem_append_right _ (List.mem_append_right _ (List.mem_append_right _ (List.mem_append_left _ (List.mem_of_getElem? (i := 13) (by decide +kernel)))))))))) rfl, lw_in (List.mem_append_right _ (List.mem_append_left _ (List.mem_of_getElem? (i := 13) (by decide +kernel)))) rfl, lw_in (List.mem_append_right _ (List.mem_append_right _ (List.mem_append_right _ (List.mem_append_right _ (List.mem_append_right _ (List.mem_append_right _ (List.mem_append_right _ (List.mem_append_left _ (List.mem_of_getElem? (i := 14) (by decide +kernel)))))))))) rfl, by decide +kernel⟩
theorem jm_X12_heir : jVm RX12 yX12_heir cX12_heir 7 (some .int) 2 := ⟨lw_in (List.mem_append_right _ (List.mem_append_right _ (List.mem_append_right _ (List.mem_append_right _ (List.mem_append_right _ (List.mem_append_right _ (List.mem_append_right _ (List.mem_append_right _ (List.mem_of_getElem? (i := 4) (by decide +kernel)))))))))) rfl, lw_in (List.mem_append_right _ (List.mem_append_right _ (List.mem_append_right _ (List.mem_append_right _ (List.mem_append_right _ (List.mem_append_right _ (List.mem_append_right _ (List.mem_append_right _ (List.mem_of_getElem? (i := 5) (by decide +kernel)))))))))) rfl, lw_in (List.mem_append_right _ (List.mem_append_left _ (List.mem_of_getElem? (i := 13) (by decide +kernel)))) rfl, lw_in (List.mem_append_right _ (List.mem_append_right _ (List.mem_append_right _ (List.mem_append_right _ (List.mem_append_right _ (List.mem_append_right _ (List.mem_append_right _ (List.mem_append_right _ (List.mem_of_getElem? (i := 6) (by decide +kernel)))))))))) rfl, by decide +kernel⟩
theorem jm_X12_home : jVm RX12 yX12_home cX12_home 3 (some .int) 0 := ⟨lw_in (List.mem_append_right _ (List.mem_append_right _ (List.mem_append_right _ (List.mem_append_right _ (List.mem_append_right _ (List.mem_append_right _ (List.mem_append_right _ (List.mem_append_right _ (List.mem_of_getElem? (i := 0) (by decide +kernel)))))))))) rfl, lw_in (List.mem_append_right _ (List.mem_append_right _ (List.mem_append_right _ (List.mem_append_right _ (List.mem_append_right _ (List.mem_append_right _ (List.mem_append_right _ (List.mem_append_right _ (List.mem_of_getElem? (i := 1) (by decide +kernel)))))))))) rfl, lw_in (List.mem_append_right _ (List.mem_append_left _ (List.mem_of_getElem? (i := 13) (by decide +kernel)))) rfl, lw_in (List.mem_append_right _ (List.mem_append_right _ (List.mem_append_right _ (List.mem_append_right _ (List.mem_append_right _ (List.mem_append_right _ (List.mem_append_right _ (List.mem_append_right _ (List.mem_of_getElem? (i := 2) (by decide +kernel)))))))))) rfl, by decide +kernel⟩
theorem jm_X12_image : jVm RX12 yX12_image cX12_image 3 (some .int) 1 := ⟨lw_in (List.mem_append_right _ (List.mem_append_right _ (List.mem_append_right _ (List.mem_append_right _ (List.mem_append_right _ (List.mem_append_right _ (List.mem_append_right _ (List.mem_append_right _ (List.mem_of_getElem? (i := 113) (by decide +kernel)))))))))) rfl, lw_in (List.mem_append_right _ (List.mem_append_right _ (List.mem_append_right _ (List.mem_append_right _ (List.mem_append_right _ (List.mem_append_right _ (List.mem_append_right _ (List.mem_append_right _ (List.mem_of_getElem? (i := 114) (by decide +kernel)))))))))) rfl, lw_in (List.mem_append_right _ (List.mem_append_left _ (List.mem_of_getElem? (i := 13) (by decide +kernel)))) rfl, lw_in (List.mem_append_right _ (List.mem_append_right _ (List.mem_append_right _ (List.mem_append_right _ (List.mem_append_right _ (List.mem_append_right _ (List.mem_append_right _ (List.mem_append_right _ (List.mem_of_getElem? (i := 115) (by decide +kernel)))))))))) rfl, by decide +kernel⟩
theorem jm_X12_lie : jVm RX12 yX12_lie cX12_lie 1 (some .int) 0 := ⟨lw_in (List.mem_append_right _ (List.mem_append_right _ (List.mem_append_right _ (List.mem_append_right _ (List.mem_append_right _ (List.mem_append_right _ (List.mem_append_right _ (List.mem_append_left _ (List.mem_of_getElem? (i := 36) (by decide +kernel)))))))))) rfl, lw_in (List.mem_append_right _ (List.mem_append_right _ (List.mem_append_right _ (List.mem_append_right _ (List.mem_append_right _ (List.mem_append_right _ (List.mem_append_right _ (List.mem_append_left _ (List.mem_of_getElem? (i := 37) (by decide +kernel)))))))))) rfl, lw_in (List.mem_append_right _ (List.mem_append_left _ (List.mem_of_getElem? (i := 13) (by decide +kernel)))) rfl, lw_in (List.mem_append_right _ (List.mem_append_right _ (List.mem_append_right _ (List.mem_append_right _ (List.mem_append_right _ (List.mem_append_right _ (List.mem_append_right _ (List.mem_append_left _ (List.mem_of_getElem? (i := 38) (by decide +kernel)))))))))) rfl, by decide +kernel⟩
theorem jm_X12_lies : jVm RX12 yX12_lies cX12_lies 4 (some .int) 1 := ⟨lw_in (List.mem_append_right _ (List.mem_append_right _ (List.mem_append_right _ (List.mem_append_right _ (List.mem_append_right _ (List.mem_append_right _ (List.mem_append_right _ (List.mem_append_left _ (List.mem_of_getElem? (i := 193) (by decide +kernel)))))))))) rfl, lw_in (List.mem_append_right _ (List.mem_append_right _ (List.mem_append_right _ (List.mem_append_right _ (List.mem_append_right _ (List.mem_append_right _ (List.mem_append_right _ (List.mem_append_left _ (List.mem_of_getElem? (i := 194) (by decide +kernel)))))))))) rfl, lw_in (List.mem_append_right _ (List.mem_append_left _ (List.mem_of_getElem? (i := 13) (by decide +kernel)))) rfl, lw_in (List.mem_append_right _ (List.mem_append_right _ (List.mem_append_right _ (List.mem_append_right _ (List.mem_append_right _ (List.mem_append_right _ (List.mem_append_right _ (List.mem_append_left _ (List.mem_of_getElem? (i := 195) (by decide +kernel)))))))))) rfl, by decide +kernel⟩
theorem jm_X12_look : jVm RX12 yX12_look cX12_look 7 (some .int) 2 := ⟨lw_in (List.mem_append_right _ (List.mem_append_right _ (List.mem_append_right _ (List.mem_append_right _ (List.mem_append_right _ (List.mem_append_right _ (List.mem_append_right _ (List.mem_append_right _ (List.mem_of_getElem? (i := 68) (by decide +kernel)))))))))) rfl, lw_in (List.mem_append_right _ (List.mem_append_right _ (List.mem_append_right _ (List.mem_append_right _ (List.mem_append_right _ (List.mem_append_right _ (List.mem_append_right _ (List.mem_append_right _ (List.mem_of_getElem? (i := 69) (by decide +kernel)))))))))) rfl, lw_in (List.mem_append_right _ (List.mem_append_left _ (List.mem_of_getElem? (i := 13) (by decide +kernel)))) rfl, lw_in (List.mem_append_right _ (List.mem_append_right _ (List.mem_append_right _ (List.mem_append_right _ (List.mem_append_right _ (List.mem_append_right _ (List.mem_append_right _ (List.mem_append_right _ (List.mem_of_getElem? (i := 70) (by decide +kernel)))))))))) rfl, by decide +kernel⟩
theorem jm_X12_note : jVm RX12 yX12_note cX12_note 5 (some .int) 3 := ⟨lw_in (List.mem_append_right _ (List.mem_append_right _ (List.mem_append_right _ (List.mem_append_right _ (List.mem_append_right _ (List.mem_append_right _ (List.mem_append_right _ (List.mem_append_right _ (List.mem_of_getElem? (i := 43) (by decide +kernel)))))))))) rfl, lw_in (List.mem_append_right _ (List.mem_append_right _ (List.mem_append_right _ (List.mem_append_right _ (List.mem_append_right _ (List.mem_append_right _ (List.mem_append_right _ (List.mem_append_right _ (List.mem_of_getElem? (i := 44) (by decide +kernel)))))))))) rfl, lw_in (List.mem_append_right _ (List.mem_append_left _ (List.mem_of_getElem? (i := 13) (by decide +kernel)))) rfl, lw_in (List.mem_append_right _ (List.mem_append_right _ (List.mem_append_right _ (List.mem_append_right _ (List.mem_append_right _ (List.mem_append_right _ (List.mem_append_right _ (List.mem_append_right _ (List.mem_of_getElem? (i := 45) (by decide +kernel)))))))))) rfl, by decide +kernel⟩
theorem jm_X12_parish : jVm RX12 yX12_parish cX12_parish 2 (some .int) 0 := ⟨lw_in (List.mem_append_right _ (List.mem_append_right _ (List.mem_append_right _ (List.mem_append_right _ (List.mem_append_right _ (List.mem_append_right _ (List.mem_append_right _ (List.mem_append_left _ (List.mem_of_getElem? (i := 4) (by decide +kernel)))))))))) rfl, lw_in (List.mem_append_right _ (List.mem_append_right _ (List.mem_append_right _ (List.mem_append_right _ (List.mem_append_right _ (List.mem_append_right _ (List.mem_append_right _ (List.mem_append_left _ (List.mem_of_getElem? (i := 5) (by decide +kernel)))))))))) rfl, lw_in (List.mem_append_right _ (List.mem_append_left _ (List.mem_of_getElem? (i := 13) (by decide +kernel)))) rfl, lw_in (List.mem_append_right _ (List.mem_append_right _ (List.mem_append_right _ (List.mem_append_right _ (List.mem_append_right _ (List.mem_append_right _ (List.mem_append_right _ (List.mem_append_left _ (List.mem_of_getElem? (i := 6) (by decide +kernel)))))))))) rfl, by decide +kernel⟩
theorem jm_X12_pence : jVm RX12 yX12_pence cX12_pence 9 (some .int) 2 := ⟨lw_in (List.mem_append_right _ (List.mem_append_right _ (List.mem_append_right _ (List.mem_append_right _ (List.mem_append_right _ (List.mem_append_right _ (List.mem_append_right _ (List.mem_append_right _ (List.mem_of_getElem? (i := 34) (by decide +kernel)))))))))) rfl, lw_in (List.mem_append_right _ (List.mem_append_right _ (List.mem_append_right _ (List.mem_append_right _ (List.mem_append_right _ (List.mem_append_right _ (List.mem_append_right _ (List.mem_append_right _ (List.mem_of_getElem? (i := 35) (by decide +kernel)))))))))) rfl, lw_in (List.mem_append_right _ (List.mem_append_left _ (List.mem_of_getElem? (i := 13) (by decide +kernel)))) rfl, lw_in (List.mem_append_right _ (List.mem_append_right _ (List.mem_append_right _ (List.mem_append_right _ (List.mem_append_right _ (List.mem_append_right _ (List.mem_append_right _ (List.mem_append_right _ (List.mem_of_getElem? (i := 36) (by decide +kernel)))))))))) rfl, by decide +kernel⟩
theorem jm_X12_pour : jVm RX12 yX12_pour cX12_pour 3 (some .int) 2 := ⟨lw_in (List.mem_append_right _ (List.mem_append_right _ (List.mem_append_right _ (List.mem_append_right _ (List.mem_append_right _ (List.mem_append_right _ (List.mem_append_right _ (List.mem_append_left _ (List.mem_of_getElem? (i := 136) (by decide +kernel)))))))))) rfl, lw_in (List.mem_append_right _ (List.mem_append_right _ (List.mem_append_right _ (List.mem_append_right _ (List.mem_append_right _ (List.mem_append_right _ (List.mem_append_right _ (List.mem_append_left _ (List.mem_of_getElem? (i := 137) (by decide +kernel)))))))))) rfl, lw_in (List.mem_append_right _ (List.mem_append_left _ (List.mem_of_getElem? (i := 13) (by decide +kernel)))) rfl, lw_in (List.mem_append_right _ (List.mem_append_right _ (List.mem_append_right _ (List.mem_append_right _ (List.mem_append_right _ (List.mem_append_right _ (List.mem_append_right _ (List.mem_append_left _ (List.mem_of_getElem? (i := 138) (by decide +kernel)))))))))) rfl, by decide +kernel⟩
theorem jm_X12_rests : jVm RX12 yX12_rests cX12_rests 8 (some .int) 4 := ⟨lw_in (List.mem_append_right _ (List.mem_append_right _ (List.mem_append_right _ (List.mem_append_right _ (List.mem_append_right _ (List.mem_append_right _ (List.mem_append_right _ (List.mem_append_right _ (List.mem_of_getElem? (i := 13) (by decide +kernel)))))))))) rfl, lw_in (List.mem_append_right _ (List.mem_append_right _ (List.mem_append_right _ (List.mem_append_right _ (List.mem_append_right _ (List.mem_append_right _ (List.mem_append_right _ (List.mem_append_right _ (List.mem_of_getElem? (i := 14) (by decide +kernel)))))))))) rfl, lw_in (List.mem_append_right _ (List.mem_append_left _ (List.mem_of_getElem? (i := 13) (by decide +kernel)))) rfl, lw_in (List.mem_append_right _ (List.mem_append_right _ (List.mem_append_right _ (List.mem_append_right _ (List.mem_append_right _ (List.mem_append_right _ (List.mem_append_right _ (List.mem_append_right _ (List.mem_of_getElem? (i := 15) (by decide +kernel)))))))))) rfl, by decide +kernel⟩
theorem jm_X12_rings : jVm RX12 yX12_rings cX12_rings 6 (some .int) 1 := ⟨lw_in (List.mem_append_right _ (List.mem_append_right _ (List.mem_append_right _ (List.mem_append_right _ (List.mem_append_right _ (List.mem_append_right _ (List.mem_append_right _ (List.mem_append_left _ (List.mem_of_getElem? (i := 209) (by decide +kernel)))))))))) rfl, lw_in (List.mem_append_right _ (List.mem_append_right _ (List.mem_append_right _ (List.mem_append_right _ (List.mem_append_right _ (List.mem_append_right _ (List.mem_append_right _ (List.mem_append_left _ (List.mem_of_getElem? (i := 210) (by decide +kernel)))))))))) rfl, lw_in (List.mem_append_right _ (List.mem_append_left _ (List.mem_of_getElem? (i := 13) (by decide +kernel)))) rfl, lw_in (List.mem_append_right _ (List.mem_append_right _ (List.mem_append_right _ (List.mem_append_right _ (List.mem_append_right _ (List.mem_append_right _ (List.mem_append_right _ (List.mem_append_left _ (List.mem_of_getElem? (i := 211) (by decide +kernel)))))))))) rfl, by decide +kernel⟩
theorem jm_X12_rule : jVm RX12 yX12_rule cX12_rule 1 (some .int) 0 := ⟨lw_in (List.mem_append_right _ (List.mem_append_right _ (List.mem_append_right _ (List.mem_append_right _ (List.mem_append_right _ (List.mem_append_right _ (List.mem_append_left _ (List.mem_of_getElem? (i := 88) (by decide +kernel))))))))) rfl, lw_in (List.mem_append_right _ (List.mem_append_right _ (List.mem_append_right _ (List.mem_append_right _ (List.mem_append_right _ (List.mem_append_right _ (List.mem_append_left _ (List.mem_of_getElem? (i := 89) (by decide +kernel))))))))) rfl, lw_in (List.mem_append_right _ (List.mem_append_left _ (List.mem_of_getElem? (i := 13) (by decide +kernel)))) rfl, lw_in (List.mem_append_right _ (List.mem_append_right _ (List.mem_append_right _ (List.mem_append_right _ (List.mem_append_right _ (List.mem_append_right _ (List.mem_append_left _ (List.mem_of_getElem? (i := 90) (by decide +kernel))))))))) rfl, by decide +kernel⟩
theorem jm_X12_ruled : jVm RX12 yX12_ruled cX12_ruled 5 (some .int) 1 := ⟨lw_in (List.mem_append_right _ (List.mem_append_right _ (List.mem_append_right _ (List.mem_append_right _ (List.mem_append_right _ (List.mem_append_right _ (List.mem_append_right _ (List.mem_append_right _ (List.mem_of_getElem? (i := 48) (by decide +kernel)))))))))) rfl, lw_in (List.mem_append_right _ (List.mem_append_right _ (List.mem_append_right _ (List.mem_append_right _ (List.mem_append_right _ (List.mem_append_right _ (List.mem_append_right _ (List.mem_append_right _ (List.mem_of_getElem? (i := 49) (by decide +kernel)))))))))) rfl, lw_in (List.mem_append_right _ (List.mem_append_left _ (List.mem_of_getElem? (i := 13) (by decide +kernel)))) rfl, lw_in (List.mem_append_right _ (List.mem_append_right _ (List.mem_append_right _ (List.mem_append_right _ (List.mem_append_right _ (List.mem_append_right _ (List.mem_append_right _ (List.mem_append_right _ (List.mem_of_getElem? (i := 50) (by decide +kernel)))))))))) rfl, by decide +kernel⟩
theorem jm_X12_seed : jVm RX12 yX12_seed cX12_seed 3 (some .int) 1 := ⟨lw_in (List.mem_append_right _ (List.mem_append_right _ (List.mem_append_right _ (List.mem_append_right _ (List.mem_append_right _ (List.mem_append_right _ (List.mem_append_right _ (List.mem_append_right _ (List.mem_of_getElem? (i := 88) (by decide +kernel)))))))))) rfl, lw_in (List.mem_append_right _ (List.mem_append_right _ (List.mem_append_right _ (List.mem_append_right _ (List.mem_append_right _ (List.mem_append_right _ (List.mem_append_right _ (List.mem_append_right _ (List.mem_of_getElem? (i := 89) (by decide +kernel)))))))))) rfl, lw_in (List.mem_append_right _ (List.mem_append_left _ (List.mem_of_getElem? (i := 13) (by decide +kernel)))) rfl, lw_in (List.mem_append_right _ (List.mem_append_right _ (List.mem_append_right _ (List.mem_append_right _ (List.mem_append_right _ (List.mem_append_right _ (List.mem_append_right _ (List.mem_append_right _ (List.mem_of_getElem? (i := 90) (by decide +kernel)))))))))) rfl, by decide +kernel⟩
theorem jm_X12_step : jVm RX12 yX12_step cX12_step 7 (some .int) 3 := ⟨lw_in (List.mem_append_right _ (List.mem_append_right _ (List.mem_append_right _ (List.mem_append_right _ (List.mem_append_right _ (List.mem_append_right _ (List.mem_append_right _ (List.mem_append_left _ (List.mem_of_getElem? (i := 185) (by decide +kernel)))))))))) rfl, lw_in (List.mem_append_right _ (List.mem_append_right _ (List.mem_append_right _ (List.mem_append_right _ (List.mem_append_right _ (List.mem_append_right _ (List.mem_append_right _ (List.mem_append_left _ (List.mem_of_getElem? (i := 186) (by decide +kernel)))))))))) rfl, lw_in (List.mem_append_right _ (List.mem_append_left _ (List.mem_of_getElem? (i := 13) (by decide +kernel)))) rfl, lw_in (List.mem_append_right _ (List.mem_append_right _ (List.mem_append_right _ (List.mem_append_right _ (List.mem_append_right _ (List.mem_append_right _ (List.mem_append_right _ (List.mem_append_left _ (List.mem_of_getElem? (i := 187) (by decide +kernel)))))))))) rfl, by decide +kernel⟩
theorem jm_X12_tastes : jVm RX12 yX12_tastes cX12_tastes 3 (some .int) 2 := ⟨lw_in (List.mem_append_right _ (List.mem_append_right _ (List.mem_append_right _ (List.mem_append_right _ (List.mem_append_right _ (List.mem_append_right _ (List.mem_append_right _ (List.mem_append_right _ (List.mem_of_getElem? (i := 84) (by decide +kernel)))))))))) rfl, lw_in (List.mem_append_right _ (List.mem_append_right _ (List.mem_append_right _ (List.mem_append_right _ (List.mem_append_right _ (List.mem_append_right _ (List.mem_append_right _ (List.mem_append_right _ (List.mem_of_getElem? (i := 85) (by decide +kernel)))))))))) rfl, lw_in (List.mem_append_right _ (List.mem_append_left _ (List.mem_of_getElem? (i := 13) (by decide +kernel)))) rfl, lw_in (List.mem_append_right _ (List.mem_append_right _ (List.mem_append_right _ (List.mem_append_right _ (List.mem_append_right _ (List.mem_append_right _ (List.mem_append_right _ (List.mem_append_right _ (List.mem_of_getElem? (i := 86) (by decide +kernel)))))))))) rfl, by decide +kernel⟩
theorem jm_X12_undo : jVm RX12 yX12_undo cX12_undo 2 (some .int) 0 := ⟨lw_in (List.mem_append_right _ (List.mem_append_right _ (List.mem_append_right _ (List.mem_append_right _ (List.mem_append_right _ (List.mem_append_right _ (List.mem_append_right _ (List.mem_append_left _ (List.mem_of_getElem? (i := 48) (by decide +kernel)))))))))) rfl, lw_in (List.mem_append_right _ (List.mem_append_right _ (List.mem_append_right _ (List.mem_append_right _ (List.mem_append_right _ (List.mem_append_right _ (List.mem_append_right _ (List.mem_append_left _ (List.mem_of_getElem? (i := 49) (by decide +kernel)))))))))) rfl, lw_in (List.mem_append_right _ (List.mem_append_left _ (List.mem_of_getElem? (i := 13) (by decide +kernel)))) rfl, lw_in (List.mem_append_right _ (List.mem_append_right _ (List.mem_append_right _ (List.mem_append_right _ (List.mem_append_right _ (List.mem_append_right _ (List.mem_append_right _ (List.mem_append_left _ (List.mem_of_getElem? (i := 50) (by decide +kernel)))))))))) rfl, by decide +kernel⟩
theorem jm_X12_wed : jVm RX12 yX12_wed cX12_wed 3 (some .int) 2 := ⟨lw_in (List.mem_append_right _ (List.mem_append_right _ (List.mem_append_right _ (List.mem_append_right _ (List.mem_append_right _ (List.mem_append_right _ (List.mem_append_right _ (List.mem_append_left _ (List.mem_of_getElem? (i := 132) (by decide +kernel)))))))))) rfl, lw_in (List.mem_append_right _ (List.mem_append_right _ (List.mem_append_right _ (List.mem_append_right _ (List.mem_append_right _ (List.mem_append_right _ (List.mem_append_right _ (List.mem_append_left _ (List.mem_of_getElem? (i := 133) (by decide +kernel)))))))))) rfl, lw_in (List.mem_append_right _ (List.mem_append_left _ (List.mem_of_getElem? (i := 13) (by decide +kernel)))) rfl, lw_in (List.mem_append_right _ (List.mem_append_right _ (List.mem_append_right _ (List.mem_append_right _ (List.mem_append_right _ (List.mem_append_right _ (List.mem_append_right _ (List.mem_append_left _ (List.mem_of_getElem? (i := 134) (by decide +kernel)))))))))) rfl, by decide +kernel⟩
theorem jm_X12_well : jVm RX12 yX12_well cX12_well 3 (some .int) 2 := ⟨lw_in (List.mem_append_right _ (List.mem_append_right _ (List.mem_append_right _ (List.mem_append_right _ (List.mem_append_right _ (List.mem_append_right _ (List.mem_append_right _ (List.mem_append_left _ (List.mem_of_getElem? (i := 20) (by decide +kernel)))))))))) rfl, lw_in (List.mem_append_right _ (List.mem_append_right _ (List.mem_append_right _ (List.mem_append_right _ (List.mem_append_right _ (List.mem_append_right _ (List.mem_append_right _ (List.mem_append_left _ (List.mem_of_getElem? (i := 21) (by decide +kernel)))))))))) rfl, lw_in (List.mem_append_right _ (List.mem_append_left _ (List.mem_of_getElem? (i := 13) (by decide +kernel)))) rfl, lw_in (List.mem_append_right _ (List.mem_append_right _ (List.mem_append_right _ (List.mem_append_right _ (List.mem_append_right _ (List.mem_append_right _ (List.mem_append_right _ (List.mem_append_left _ (List.mem_of_getElem? (i := 22) (by decide +kernel)))))))))) rfl, by decide +kernel⟩
theorem jm_X12_year : jVm RX12 yX12_year cX12_year 2 (some .int) 0 := ⟨lw_in (List.mem_append_right _ (List.mem_append_right _ (List.mem_append_right _ (List.mem_append_right _ (List.mem_append_right _ (List.mem_append_right _ (List.mem_append_right _ (List.mem_append_left _ (List.mem_of_getElem? (i := 52) (by decide +kernel)))))))))) rfl, lw_in (List.mem_append_right _ (List.mem_append_right _ (List.mem_append_right _ (List.mem_append_right _ (List.mem_append_right _ (List.mem_append_right _ (List.mem_append_right _ (List.mem_append_left _ (List.mem_of_getElem? (i := 53) (by decide +kernel)))))))))) rfl, lw_in (List.mem_append_right _ (List.mem_append_left _ (List.mem_of_getElem? (i := 13) (by decide +kernel)))) rfl, lw_in (List.mem_append_right _ (List.mem_append_right _ (List.mem_append_right _ (List.mem_append_right _ (List.mem_append_right _ (List.mem_append_right _ (List.mem_append_right _ (List.mem_append_left _ (List.mem_of_getElem? (i := 54) (by decide +kernel)))))))))) rfl, by decide +kernel⟩
theorem dL_law_0 : decode code 0 = .ok (.new 7, 3) := by decide +kernel
theorem dL_law_3 : decode code 3 = .ok (.dup, 1) := by decide +kernel
theorem dL_law_4 : decode code 4 = .ok (.invokespecial 9, 3) := by decide +kernel
theorem dL_law_7 : decode code 7 = .ok (.astore_n 1, 1) := by decide +kernel
theorem dL_law_8 : decode code 8 = .ok (.new 10, 3) := by decide +kernel
theorem dL_law_11 : decode code 11 = .ok (.dup, 1) := by decide +kernel
theorem dL_law_12 : decode code 12 = .ok (.invokespecial 12, 3) := by decide +kernel
theorem dL_law_15 : decode code 15 = .ok (.astore_n 2, 1) := by decide +kernel
theorem dL_law_16 : decode code 16 = .ok (.iconst 0, 1) := by decide +kernel
theorem dL_law_17 : decode code 17 = .ok (.istore_n 3, 1) := by decide +kernel
theorem dL_law_18 : decode code 18 = .ok (.iload_n 3, 1) := by decide +kernel
theorem dL_law_19 : decode code 19 = .ok (.aload_n 0, 1) := by decide +kernel
theorem dL_law_20 : decode code 20 = .ok (.arraylength, 1) := by decide +kernel
theorem dL_law_21 : decode code 21 = .ok (.bipush 6, 2) := by decide +kernel
theorem dL_law_23 : decode code 23 = .ok (.isub, 1) := by decide +kernel
theorem dL_law_24 : decode code 24 = .ok (.if_icmp .gt 1212, 3) := by decide +kernel
theorem dL_law_27 : decode code 27 = .ok (.aload_n 0, 1) := by decide +kernel
theorem dL_law_28 : decode code 28 = .ok (.iload_n 3, 1) := by decide +kernel
theorem dL_law_29 : decode code 29 = .ok (.iaload, 1) := by decide +kernel
theorem dL_law_30 : decode code 30 = .ok (.bipush 63, 2) := by decide +kernel
theorem dL_law_32 : decode code 32 = .ok (.iand, 1) := by decide +kernel
theorem dL_law_33 : decode code 33 = .ok (.tableswitch 1197 0 35 #[159, 222, 245, 258, 271, 294, 327, 360, 373, 386, 419, 452, 485, 508, 521, 544, 587, 610, 633, 666, 689, 732, 755, 768, 801, 834, 867, 920, 953, 996, 1019, 1052, 1075, 1128, 1151, 1174], 159) := by decide +kernel
theorem dL_law_192 : decode code 192 = .ok (.aload_n 1, 1) := by decide +kernel
theorem dL_law_193 : decode code 193 = .ok (.aload_n 0, 1) := by decide +kernel
theorem dL_law_194 : decode code 194 = .ok (.iload_n 3, 1) := by decide +kernel
theorem dL_law_195 : decode code 195 = .ok (.iconst 1, 1) := by decide +kernel
theorem dL_law_196 : decode code 196 = .ok (.iadd, 1) := by decide +kernel
theorem dL_law_197 : decode code 197 = .ok (.iaload, 1) := by decide +kernel
theorem dL_law_198 : decode code 198 = .ok (.aload_n 0, 1) := by decide +kernel
theorem dL_law_199 : decode code 199 = .ok (.iload_n 3, 1) := by decide +kernel
theorem dL_law_200 : decode code 200 = .ok (.iconst 2, 1) := by decide +kernel
theorem dL_law_201 : decode code 201 = .ok (.iadd, 1) := by decide +kernel
theorem dL_law_202 : decode code 202 = .ok (.iaload, 1) := by decide +kernel
theorem dL_law_203 : decode code 203 = .ok (.aload_n 0, 1) := by decide +kernel
theorem dL_law_204 : decode code 204 = .ok (.iload_n 3, 1) := by decide +kernel
theorem dL_law_205 : decode code 205 = .ok (.iconst 3, 1) := by decide +kernel
theorem dL_law_206 : decode code 206 = .ok (.iadd, 1) := by decide +kernel
theorem dL_law_207 : decode code 207 = .ok (.iaload, 1) := by decide +kernel
theorem dL_law_208 : decode code 208 = .ok (.aload_n 0, 1) := by decide +kernel
theorem dL_law_209 : decode code 209 = .ok (.iload_n 3, 1) := by decide +kernel
theorem dL_law_210 : decode code 210 = .ok (.iconst 4, 1) := by decide +kernel
theorem dL_law_211 : decode code 211 = .ok (.iadd, 1) := by decide +kernel
theorem dL_law_212 : decode code 212 = .ok (.iaload, 1) := by decide +kernel
theorem dL_law_213 : decode code 213 = .ok (.aload_n 0, 1) := by decide +kernel
theorem dL_law_214 : decode code 214 = .ok (.iload_n 3, 1) := by decide +kernel
theorem dL_law_215 : decode code 215 = .ok (.iconst 5, 1) := by decide +kernel
theorem dL_law_216 : decode code 216 = .ok (.iadd, 1) := by decide +kernel
theorem dL_law_217 : decode code 217 = .ok (.iaload, 1) := by decide +kernel
theorem dL_law_218 : decode code 218 = .ok (.invokevirtual 13, 3) := by decide +kernel
theorem dL_law_221 : decode code 221 = .ok (.aload_n 2, 1) := by decide +kernel
theorem dL_law_222 : decode code 222 = .ok (.aload_n 0, 1) := by decide +kernel
theorem dL_law_223 : decode code 223 = .ok (.iload_n 3, 1) := by decide +kernel
theorem dL_law_224 : decode code 224 = .ok (.iconst 1, 1) := by decide +kernel
theorem dL_law_225 : decode code 225 = .ok (.iadd, 1) := by decide +kernel
theorem dL_law_226 : decode code 226 = .ok (.iaload, 1) := by decide +kernel
theorem dL_law_227 : decode code 227 = .ok (.aload_n 0, 1) := by decide +kernel
theorem dL_law_228 : decode code 228 = .ok (.iload_n 3, 1) := by decide +kernel
theorem dL_law_229 : decode code 229 = .ok (.iconst 2, 1) := by decide +kernel
theorem dL_law_230 : decode code 230 = .ok (.iadd, 1) := by decide +kernel
theorem dL_law_231 : decode code 231 = .ok (.iaload, 1) := by decide +kernel
theorem dL_law_232 : decode code 232 = .ok (.aload_n 0, 1) := by decide +kernel
theorem dL_law_233 : decode code 233 = .ok (.iload_n 3, 1) := by decide +kernel
theorem dL_law_234 : decode code 234 = .ok (.iconst 3, 1) := by decide +kernel
theorem dL_law_235 : decode code 235 = .ok (.iadd, 1) := by decide +kernel
theorem dL_law_236 : decode code 236 = .ok (.iaload, 1) := by decide +kernel
theorem dL_law_237 : decode code 237 = .ok (.aload_n 0, 1) := by decide +kernel
theorem dL_law_238 : decode code 238 = .ok (.iload_n 3, 1) := by decide +kernel
theorem dL_law_239 : decode code 239 = .ok (.iconst 4, 1) := by decide +kernel
theorem dL_law_240 : decode code 240 = .ok (.iadd, 1) := by decide +kernel
theorem dL_law_241 : decode code 241 = .ok (.iaload, 1) := by decide +kernel
theorem dL_law_242 : decode code 242 = .ok (.aload_n 0, 1) := by decide +kernel
theorem dL_law_243 : decode code 243 = .ok (.iload_n 3, 1) := by decide +kernel
theorem dL_law_244 : decode code 244 = .ok (.iconst 5, 1) := by decide +kernel
theorem dL_law_245 : decode code 245 = .ok (.iadd, 1) := by decide +kernel
theorem dL_law_246 : decode code 246 = .ok (.iaload, 1) := by decide +kernel
theorem dL_law_247 : decode code 247 = .ok (.invokevirtual 17, 3) := by decide +kernel
theorem dL_law_250 : decode code 250 = .ok (.if_icmp .eq 980, 3) := by decide +kernel
theorem dL_law_253 : decode code 253 = .ok (.iconst 0, 1) := by decide +kernel
theorem dL_law_255 : decode code 255 = .ok (.aload_n 1, 1) := by decide +kernel
theorem dL_law_256 : decode code 256 = .ok (.aload_n 0, 1) := by decide +kernel
theorem dL_law_257 : decode code 257 = .ok (.iload_n 3, 1) := by decide +kernel
theorem dL_law_258 : decode code 258 = .ok (.iconst 1, 1) := by decide +kernel
theorem dL_law_259 : decode code 259 = .ok (.iadd, 1) := by decide +kernel
theorem dL_law_260 : decode code 260 = .ok (.iaload, 1) := by decide +kernel
theorem dL_law_261 : decode code 261 = .ok (.invokevirtual 18, 3) := by decide +kernel
theorem dL_law_264 : decode code 264 = .ok (.aload_n 2, 1) := by decide +kernel
theorem dL_law_265 : decode code 265 = .ok (.aload_n 0, 1) := by decide +kernel
theorem dL_law_266 : decode code 266 = .ok (.iload_n 3, 1) := by decide +kernel
theorem dL_law_267 : decode code 267 = .ok (.iconst 1, 1) := by decide +kernel
theorem dL_law_268 : decode code 268 = .ok (.iadd, 1) := by decide +kernel
theorem dL_law_269 : decode code 269 = .ok (.iaload, 1) := by decide +kernel
theorem dL_law_270 : decode code 270 = .ok (.invokevirtual 22, 3) := by decide +kernel
theorem dL_law_273 : decode code 273 = .ok (.if_icmp .eq 957, 3) := by decide +kernel
theorem dL_law_276 : decode code 276 = .ok (.iconst 0, 1) := by decide +kernel
theorem dL_law_278 : decode code 278 = .ok (.aload_n 1, 1) := by decide +kernel
theorem dL_law_279 : decode code 279 = .ok (.invokevirtual 23, 3) := by decide +kernel
theorem dL_law_282 : decode code 282 = .ok (.aload_n 2, 1) := by decide +kernel
theorem dL_law_283 : decode code 283 = .ok (.invokevirtual 27, 3) := by decide +kernel
theorem dL_law_286 : decode code 286 = .ok (.if_icmp .eq 944, 3) := by decide +kernel
theorem dL_law_289 : decode code 289 = .ok (.iconst 0, 1) := by decide +kernel
theorem dL_law_291 : decode code 291 = .ok (.aload_n 1, 1) := by decide +kernel
theorem dL_law_292 : decode code 292 = .ok (.invokevirtual 28, 3) := by decide +kernel
theorem dL_law_295 : decode code 295 = .ok (.aload_n 2, 1) := by decide +kernel
theorem dL_law_296 : decode code 296 = .ok (.invokevirtual 31, 3) := by decide +kernel
theorem dL_law_299 : decode code 299 = .ok (.if_icmp .eq 931, 3) := by decide +kernel
theorem dL_law_302 : decode code 302 = .ok (.iconst 0, 1) := by decide +kernel
theorem dL_law_304 : decode code 304 = .ok (.aload_n 1, 1) := by decide +kernel
theorem dL_law_305 : decode code 305 = .ok (.aload_n 0, 1) := by decide +kernel
theorem dL_law_306 : decode code 306 = .ok (.iload_n 3, 1) := by decide +kernel
theorem dL_law_307 : decode code 307 = .ok (.iconst 1, 1) := by decide +kernel
theorem dL_law_308 : decode code 308 = .ok (.iadd, 1) := by decide +kernel
theorem dL_law_309 : decode code 309 = .ok (.iaload, 1) := by decide +kernel
theorem dL_law_310 : decode code 310 = .ok (.invokevirtual 32, 3) := by decide +kernel
theorem dL_law_313 : decode code 313 = .ok (.aload_n 2, 1) := by decide +kernel
theorem dL_law_314 : decode code 314 = .ok (.aload_n 0, 1) := by decide +kernel
theorem dL_law_315 : decode code 315 = .ok (.iload_n 3, 1) := by decide +kernel
theorem dL_law_316 : decode code 316 = .ok (.iconst 1, 1) := by decide +kernel
theorem dL_law_317 : decode code 317 = .ok (.iadd, 1) := by decide +kernel
theorem dL_law_318 : decode code 318 = .ok (.iaload, 1) := by decide +kernel
theorem dL_law_319 : decode code 319 = .ok (.invokevirtual 35, 3) := by decide +kernel
theorem dL_law_322 : decode code 322 = .ok (.if_icmp .eq 908, 3) := by decide +kernel
theorem dL_law_325 : decode code 325 = .ok (.iconst 0, 1) := by decide +kernel
theorem dL_law_327 : decode code 327 = .ok (.aload_n 1, 1) := by decide +kernel
theorem dL_law_328 : decode code 328 = .ok (.aload_n 0, 1) := by decide +kernel
theorem dL_law_329 : decode code 329 = .ok (.iload_n 3, 1) := by decide +kernel
theorem dL_law_330 : decode code 330 = .ok (.iconst 1, 1) := by decide +kernel
theorem dL_law_331 : decode code 331 = .ok (.iadd, 1) := by decide +kernel
theorem dL_law_332 : decode code 332 = .ok (.iaload, 1) := by decide +kernel
theorem dL_law_333 : decode code 333 = .ok (.aload_n 0, 1) := by decide +kernel
theorem dL_law_334 : decode code 334 = .ok (.iload_n 3, 1) := by decide +kernel
theorem dL_law_335 : decode code 335 = .ok (.iconst 2, 1) := by decide +kernel
theorem dL_law_336 : decode code 336 = .ok (.iadd, 1) := by decide +kernel
theorem dL_law_337 : decode code 337 = .ok (.iaload, 1) := by decide +kernel
theorem dL_law_338 : decode code 338 = .ok (.invokevirtual 36, 3) := by decide +kernel
theorem dL_law_341 : decode code 341 = .ok (.aload_n 2, 1) := by decide +kernel
theorem dL_law_342 : decode code 342 = .ok (.aload_n 0, 1) := by decide +kernel
theorem dL_law_343 : decode code 343 = .ok (.iload_n 3, 1) := by decide +kernel
theorem dL_law_344 : decode code 344 = .ok (.iconst 1, 1) := by decide +kernel
theorem dL_law_345 : decode code 345 = .ok (.iadd, 1) := by decide +kernel
theorem dL_law_346 : decode code 346 = .ok (.iaload, 1) := by decide +kernel
theorem dL_law_347 : decode code 347 = .ok (.aload_n 0, 1) := by decide +kernel
theorem dL_law_348 : decode code 348 = .ok (.iload_n 3, 1) := by decide +kernel
theorem dL_law_349 : decode code 349 = .ok (.iconst 2, 1) := by decide +kernel
theorem dL_law_350 : decode code 350 = .ok (.iadd, 1) := by decide +kernel
theorem dL_law_351 : decode code 351 = .ok (.iaload, 1) := by decide +kernel
theorem dL_law_352 : decode code 352 = .ok (.invokevirtual 40, 3) := by decide +kernel
theorem dL_law_355 : decode code 355 = .ok (.if_icmp .eq 875, 3) := by decide +kernel
theorem dL_law_358 : decode code 358 = .ok (.iconst 0, 1) := by decide +kernel
theorem dL_law_360 : decode code 360 = .ok (.aload_n 1, 1) := by decide +kernel
theorem dL_law_361 : decode code 361 = .ok (.aload_n 0, 1) := by decide +kernel
theorem dL_law_362 : decode code 362 = .ok (.iload_n 3, 1) := by decide +kernel
theorem dL_law_363 : decode code 363 = .ok (.iconst 1, 1) := by decide +kernel
theorem dL_law_364 : decode code 364 = .ok (.iadd, 1) := by decide +kernel
theorem dL_law_365 : decode code 365 = .ok (.iaload, 1) := by decide +kernel
theorem dL_law_366 : decode code 366 = .ok (.aload_n 0, 1) := by decide +kernel
theorem dL_law_367 : decode code 367 = .ok (.iload_n 3, 1) := by decide +kernel
theorem dL_law_368 : decode code 368 = .ok (.iconst 2, 1) := by decide +kernel
theorem dL_law_369 : decode code 369 = .ok (.iadd, 1) := by decide +kernel
theorem dL_law_370 : decode code 370 = .ok (.iaload, 1) := by decide +kernel
theorem dL_law_371 : decode code 371 = .ok (.invokevirtual 41, 3) := by decide +kernel
theorem dL_law_374 : decode code 374 = .ok (.aload_n 2, 1) := by decide +kernel
theorem dL_law_375 : decode code 375 = .ok (.aload_n 0, 1) := by decide +kernel
theorem dL_law_376 : decode code 376 = .ok (.iload_n 3, 1) := by decide +kernel
theorem dL_law_377 : decode code 377 = .ok (.iconst 1, 1) := by decide +kernel
theorem dL_law_378 : decode code 378 = .ok (.iadd, 1) := by decide +kernel
theorem dL_law_379 : decode code 379 = .ok (.iaload, 1) := by decide +kernel
theorem dL_law_380 : decode code 380 = .ok (.aload_n 0, 1) := by decide +kernel
theorem dL_law_381 : decode code 381 = .ok (.iload_n 3, 1) := by decide +kernel
theorem dL_law_382 : decode code 382 = .ok (.iconst 2, 1) := by decide +kernel
theorem dL_law_383 : decode code 383 = .ok (.iadd, 1) := by decide +kernel
theorem dL_law_384 : decode code 384 = .ok (.iaload, 1) := by decide +kernel
theorem dL_law_385 : decode code 385 = .ok (.invokevirtual 44, 3) := by decide +kernel
theorem dL_law_388 : decode code 388 = .ok (.if_icmp .eq 842, 3) := by decide +kernel
theorem dL_law_391 : decode code 391 = .ok (.iconst 0, 1) := by decide +kernel
theorem dL_law_393 : decode code 393 = .ok (.aload_n 1, 1) := by decide +kernel
theorem dL_law_394 : decode code 394 = .ok (.invokevirtual 45, 3) := by decide +kernel
theorem dL_law_397 : decode code 397 = .ok (.aload_n 2, 1) := by decide +kernel
theorem dL_law_398 : decode code 398 = .ok (.invokevirtual 48, 3) := by decide +kernel
theorem dL_law_401 : decode code 401 = .ok (.if_icmp .eq 829, 3) := by decide +kernel
theorem dL_law_404 : decode code 404 = .ok (.iconst 0, 1) := by decide +kernel
theorem dL_law_406 : decode code 406 = .ok (.aload_n 1, 1) := by decide +kernel
theorem dL_law_407 : decode code 407 = .ok (.invokevirtual 49, 3) := by decide +kernel
theorem dL_law_410 : decode code 410 = .ok (.aload_n 2, 1) := by decide +kernel
theorem dL_law_411 : decode code 411 = .ok (.invokevirtual 52, 3) := by decide +kernel
theorem dL_law_414 : decode code 414 = .ok (.if_icmp .eq 816, 3) := by decide +kernel
theorem dL_law_417 : decode code 417 = .ok (.iconst 0, 1) := by decide +kernel
theorem dL_law_419 : decode code 419 = .ok (.aload_n 1, 1) := by decide +kernel
theorem dL_law_420 : decode code 420 = .ok (.aload_n 0, 1) := by decide +kernel
theorem dL_law_421 : decode code 421 = .ok (.iload_n 3, 1) := by decide +kernel
theorem dL_law_422 : decode code 422 = .ok (.iconst 1, 1) := by decide +kernel
theorem dL_law_423 : decode code 423 = .ok (.iadd, 1) := by decide +kernel
theorem dL_law_424 : decode code 424 = .ok (.iaload, 1) := by decide +kernel
theorem dL_law_425 : decode code 425 = .ok (.aload_n 0, 1) := by decide +kernel
theorem dL_law_426 : decode code 426 = .ok (.iload_n 3, 1) := by decide +kernel
theorem dL_law_427 : decode code 427 = .ok (.iconst 2, 1) := by decide +kernel
theorem dL_law_428 : decode code 428 = .ok (.iadd, 1) := by decide +kernel
theorem dL_law_429 : decode code 429 = .ok (.iaload, 1) := by decide +kernel
theorem dL_law_430 : decode code 430 = .ok (.invokevirtual 53, 3) := by decide +kernel
theorem dL_law_433 : decode code 433 = .ok (.aload_n 2, 1) := by decide +kernel
theorem dL_law_434 : decode code 434 = .ok (.aload_n 0, 1) := by decide +kernel
theorem dL_law_435 : decode code 435 = .ok (.iload_n 3, 1) := by decide +kernel
theorem dL_law_436 : decode code 436 = .ok (.iconst 1, 1) := by decide +kernel
theorem dL_law_437 : decode code 437 = .ok (.iadd, 1) := by decide +kernel
theorem dL_law_438 : decode code 438 = .ok (.iaload, 1) := by decide +kernel
theorem dL_law_439 : decode code 439 = .ok (.aload_n 0, 1) := by decide +kernel
theorem dL_law_440 : decode code 440 = .ok (.iload_n 3, 1) := by decide +kernel
theorem dL_law_441 : decode code 441 = .ok (.iconst 2, 1) := by decide +kernel
theorem dL_law_442 : decode code 442 = .ok (.iadd, 1) := by decide +kernel
theorem dL_law_443 : decode code 443 = .ok (.iaload, 1) := by decide +kernel
theorem dL_law_444 : decode code 444 = .ok (.invokevirtual 56, 3) := by decide +kernel
theorem dL_law_447 : decode code 447 = .ok (.if_icmp .eq 783, 3) := by decide +kernel
theorem dL_law_450 : decode code 450 = .ok (.iconst 0, 1) := by decide +kernel
theorem dL_law_452 : decode code 452 = .ok (.aload_n 1, 1) := by decide +kernel
theorem dL_law_453 : decode code 453 = .ok (.aload_n 0, 1) := by decide +kernel
theorem dL_law_454 : decode code 454 = .ok (.iload_n 3, 1) := by decide +kernel
theorem dL_law_455 : decode code 455 = .ok (.iconst 1, 1) := by decide +kernel
theorem dL_law_456 : decode code 456 = .ok (.iadd, 1) := by decide +kernel
theorem dL_law_457 : decode code 457 = .ok (.iaload, 1) := by decide +kernel
theorem dL_law_458 : decode code 458 = .ok (.aload_n 0, 1) := by decide +kernel
theorem dL_law_459 : decode code 459 = .ok (.iload_n 3, 1) := by decide +kernel
theorem dL_law_460 : decode code 460 = .ok (.iconst 2, 1) := by decide +kernel
theorem dL_law_461 : decode code 461 = .ok (.iadd, 1) := by decide +kernel
theorem dL_law_462 : decode code 462 = .ok (.iaload, 1) := by decide +kernel
theorem dL_law_463 : decode code 463 = .ok (.invokevirtual 57, 3) := by decide +kernel
theorem dL_law_466 : decode code 466 = .ok (.aload_n 2, 1) := by decide +kernel
theorem dL_law_467 : decode code 467 = .ok (.aload_n 0, 1) := by decide +kernel
theorem dL_law_468 : decode code 468 = .ok (.iload_n 3, 1) := by decide +kernel
theorem dL_law_469 : decode code 469 = .ok (.iconst 1, 1) := by decide +kernel
theorem dL_law_470 : decode code 470 = .ok (.iadd, 1) := by decide +kernel
theorem dL_law_471 : decode code 471 = .ok (.iaload, 1) := by decide +kernel
theorem dL_law_472 : decode code 472 = .ok (.aload_n 0, 1) := by decide +kernel
theorem dL_law_473 : decode code 473 = .ok (.iload_n 3, 1) := by decide +kernel
theorem dL_law_474 : decode code 474 = .ok (.iconst 2, 1) := by decide +kernel
theorem dL_law_475 : decode code 475 = .ok (.iadd, 1) := by decide +kernel
theorem dL_law_476 : decode code 476 = .ok (.iaload, 1) := by decide +kernel
theorem dL_law_477 : decode code 477 = .ok (.invokevirtual 60, 3) := by decide +kernel
theorem dL_law_480 : decode code 480 = .ok (.if_icmp .eq 750, 3) := by decide +kernel
theorem dL_law_483 : decode code 483 = .ok (.iconst 0, 1) := by decide +kernel
theorem dL_law_485 : decode code 485 = .ok (.aload_n 1, 1) := by decide +kernel
theorem dL_law_486 : decode code 486 = .ok (.aload_n 0, 1) := by decide +kernel
theorem dL_law_487 : decode code 487 = .ok (.iload_n 3, 1) := by decide +kernel
theorem dL_law_488 : decode code 488 = .ok (.iconst 1, 1) := by decide +kernel
theorem dL_law_489 : decode code 489 = .ok (.iadd, 1) := by decide +kernel
theorem dL_law_490 : decode code 490 = .ok (.iaload, 1) := by decide +kernel
theorem dL_law_491 : decode code 491 = .ok (.aload_n 0, 1) := by decide +kernel
theorem dL_law_492 : decode code 492 = .ok (.iload_n 3, 1) := by decide +kernel
theorem dL_law_493 : decode code 493 = .ok (.iconst 2, 1) := by decide +kernel
theorem dL_law_494 : decode code 494 = .ok (.iadd, 1) := by decide +kernel
theorem dL_law_495 : decode code 495 = .ok (.iaload, 1) := by decide +kernel
theorem dL_law_496 : decode code 496 = .ok (.invokevirtual 61, 3) := by decide +kernel
theorem dL_law_499 : decode code 499 = .ok (.aload_n 2, 1) := by decide +kernel
theorem dL_law_500 : decode code 500 = .ok (.aload_n 0, 1) := by decide +kernel
theorem dL_law_501 : decode code 501 = .ok (.iload_n 3, 1) := by decide +kernel
theorem dL_law_502 : decode code 502 = .ok (.iconst 1, 1) := by decide +kernel
theorem dL_law_503 : decode code 503 = .ok (.iadd, 1) := by decide +kernel
theorem dL_law_504 : decode code 504 = .ok (.iaload, 1) := by decide +kernel
theorem dL_law_505 : decode code 505 = .ok (.aload_n 0, 1) := by decide +kernel
theorem dL_law_506 : decode code 506 = .ok (.iload_n 3, 1) := by decide +kernel
theorem dL_law_507 : decode code 507 = .ok (.iconst 2, 1) := by decide +kernel
theorem dL_law_508 : decode code 508 = .ok (.iadd, 1) := by decide +kernel
theorem dL_law_509 : decode code 509 = .ok (.iaload, 1) := by decide +kernel
theorem dL_law_510 : decode code 510 = .ok (.invokevirtual 64, 3) := by decide +kernel
theorem dL_law_513 : decode code 513 = .ok (.if_icmp .eq 717, 3) := by decide +kernel
theorem dL_law_516 : decode code 516 = .ok (.iconst 0, 1) := by decide +kernel
theorem dL_law_518 : decode code 518 = .ok (.aload_n 1, 1) := by decide +kernel
theorem dL_law_519 : decode code 519 = .ok (.aload_n 0, 1) := by decide +kernel
theorem dL_law_520 : decode code 520 = .ok (.iload_n 3, 1) := by decide +kernel
theorem dL_law_521 : decode code 521 = .ok (.iconst 1, 1) := by decide +kernel
theorem dL_law_522 : decode code 522 = .ok (.iadd, 1) := by decide +kernel
theorem dL_law_523 : decode code 523 = .ok (.iaload, 1) := by decide +kernel
theorem dL_law_524 : decode code 524 = .ok (.invokevirtual 65, 3) := by decide +kernel
theorem dL_law_527 : decode code 527 = .ok (.aload_n 2, 1) := by decide +kernel
theorem dL_law_528 : decode code 528 = .ok (.aload_n 0, 1) := by decide +kernel
theorem dL_law_529 : decode code 529 = .ok (.iload_n 3, 1) := by decide +kernel
theorem dL_law_530 : decode code 530 = .ok (.iconst 1, 1) := by decide +kernel
theorem dL_law_531 : decode code 531 = .ok (.iadd, 1) := by decide +kernel
theorem dL_law_532 : decode code 532 = .ok (.iaload, 1) := by decide +kernel
theorem dL_law_533 : decode code 533 = .ok (.invokevirtual 68, 3) := by decide +kernel
theorem dL_law_536 : decode code 536 = .ok (.if_icmp .eq 694, 3) := by decide +kernel
theorem dL_law_539 : decode code 539 = .ok (.iconst 0, 1) := by decide +kernel
theorem dL_law_541 : decode code 541 = .ok (.aload_n 1, 1) := by decide +kernel
theorem dL_law_542 : decode code 542 = .ok (.invokevirtual 69, 3) := by decide +kernel
theorem dL_law_545 : decode code 545 = .ok (.aload_n 2, 1) := by decide +kernel
theorem dL_law_546 : decode code 546 = .ok (.invokevirtual 72, 3) := by decide +kernel
theorem dL_law_549 : decode code 549 = .ok (.if_icmp .eq 681, 3) := by decide +kernel
theorem dL_law_552 : decode code 552 = .ok (.iconst 0, 1) := by decide +kernel
theorem dL_law_554 : decode code 554 = .ok (.aload_n 1, 1) := by decide +kernel
theorem dL_law_555 : decode code 555 = .ok (.aload_n 0, 1) := by decide +kernel
theorem dL_law_556 : decode code 556 = .ok (.iload_n 3, 1) := by decide +kernel
theorem dL_law_557 : decode code 557 = .ok (.iconst 1, 1) := by decide +kernel
theorem dL_law_558 : decode code 558 = .ok (.iadd, 1) := by decide +kernel
theorem dL_law_559 : decode code 559 = .ok (.iaload, 1) := by decide +kernel
theorem dL_law_560 : decode code 560 = .ok (.invokevirtual 73, 3) := by decide +kernel
theorem dL_law_563 : decode code 563 = .ok (.aload_n 2, 1) := by decide +kernel
theorem dL_law_564 : decode code 564 = .ok (.aload_n 0, 1) := by decide +kernel
theorem dL_law_565 : decode code 565 = .ok (.iload_n 3, 1) := by decide +kernel
theorem dL_law_566 : decode code 566 = .ok (.iconst 1, 1) := by decide +kernel
theorem dL_law_567 : decode code 567 = .ok (.iadd, 1) := by decide +kernel
theorem dL_law_568 : decode code 568 = .ok (.iaload, 1) := by decide +kernel
theorem dL_law_569 : decode code 569 = .ok (.invokevirtual 76, 3) := by decide +kernel
theorem dL_law_572 : decode code 572 = .ok (.if_icmp .eq 658, 3) := by decide +kernel
theorem dL_law_575 : decode code 575 = .ok (.iconst 0, 1) := by decide +kernel
theorem dL_law_577 : decode code 577 = .ok (.aload_n 1, 1) := by decide +kernel
theorem dL_law_578 : decode code 578 = .ok (.aload_n 0, 1) := by decide +kernel
theorem dL_law_579 : decode code 579 = .ok (.iload_n 3, 1) := by decide +kernel
theorem dL_law_580 : decode code 580 = .ok (.iconst 1, 1) := by decide +kernel
theorem dL_law_581 : decode code 581 = .ok (.iadd, 1) := by decide +kernel
theorem dL_law_582 : decode code 582 = .ok (.iaload, 1) := by decide +kernel
theorem dL_law_583 : decode code 583 = .ok (.aload_n 0, 1) := by decide +kernel
theorem dL_law_584 : decode code 584 = .ok (.iload_n 3, 1) := by decide +kernel
theorem dL_law_585 : decode code 585 = .ok (.iconst 2, 1) := by decide +kernel
theorem dL_law_586 : decode code 586 = .ok (.iadd, 1) := by decide +kernel
theorem dL_law_587 : decode code 587 = .ok (.iaload, 1) := by decide +kernel
theorem dL_law_588 : decode code 588 = .ok (.aload_n 0, 1) := by decide +kernel
theorem dL_law_589 : decode code 589 = .ok (.iload_n 3, 1) := by decide +kernel
theorem dL_law_590 : decode code 590 = .ok (.iconst 3, 1) := by decide +kernel
theorem dL_law_591 : decode code 591 = .ok (.iadd, 1) := by decide +kernel
theorem dL_law_592 : decode code 592 = .ok (.iaload, 1) := by decide +kernel
theorem dL_law_593 : decode code 593 = .ok (.invokevirtual 77, 3) := by decide +kernel
theorem dL_law_596 : decode code 596 = .ok (.aload_n 2, 1) := by decide +kernel
theorem dL_law_597 : decode code 597 = .ok (.aload_n 0, 1) := by decide +kernel
theorem dL_law_598 : decode code 598 = .ok (.iload_n 3, 1) := by decide +kernel
theorem dL_law_599 : decode code 599 = .ok (.iconst 1, 1) := by decide +kernel
theorem dL_law_600 : decode code 600 = .ok (.iadd, 1) := by decide +kernel
theorem dL_law_601 : decode code 601 = .ok (.iaload, 1) := by decide +kernel
theorem dL_law_602 : decode code 602 = .ok (.aload_n 0, 1) := by decide +kernel
theorem dL_law_603 : decode code 603 = .ok (.iload_n 3, 1) := by decide +kernel
theorem dL_law_604 : decode code 604 = .ok (.iconst 2, 1) := by decide +kernel
theorem dL_law_605 : decode code 605 = .ok (.iadd, 1) := by decide +kernel
theorem dL_law_606 : decode code 606 = .ok (.iaload, 1) := by decide +kernel
theorem dL_law_607 : decode code 607 = .ok (.aload_n 0, 1) := by decide +kernel
theorem dL_law_608 : decode code 608 = .ok (.iload_n 3, 1) := by decide +kernel
theorem dL_law_609 : decode code 609 = .ok (.iconst 3, 1) := by decide +kernel
theorem dL_law_610 : decode code 610 = .ok (.iadd, 1) := by decide +kernel
theorem dL_law_611 : decode code 611 = .ok (.iaload, 1) := by decide +kernel
theorem dL_law_612 : decode code 612 = .ok (.invokevirtual 81, 3) := by decide +kernel
theorem dL_law_615 : decode code 615 = .ok (.if_icmp .eq 615, 3) := by decide +kernel
theorem dL_law_618 : decode code 618 = .ok (.iconst 0, 1) := by decide +kernel
theorem dL_law_620 : decode code 620 = .ok (.aload_n 1, 1) := by decide +kernel
theorem dL_law_621 : decode code 621 = .ok (.aload_n 0, 1) := by decide +kernel
theorem dL_law_622 : decode code 622 = .ok (.iload_n 3, 1) := by decide +kernel
theorem dL_law_623 : decode code 623 = .ok (.iconst 1, 1) := by decide +kernel
theorem dL_law_624 : decode code 624 = .ok (.iadd, 1) := by decide +kernel
theorem dL_law_625 : decode code 625 = .ok (.iaload, 1) := by decide +kernel
theorem dL_law_626 : decode code 626 = .ok (.invokevirtual 82, 3) := by decide +kernel
theorem dL_law_629 : decode code 629 = .ok (.aload_n 2, 1) := by decide +kernel
theorem dL_law_630 : decode code 630 = .ok (.aload_n 0, 1) := by decide +kernel
theorem dL_law_631 : decode code 631 = .ok (.iload_n 3, 1) := by decide +kernel
theorem dL_law_632 : decode code 632 = .ok (.iconst 1, 1) := by decide +kernel
theorem dL_law_633 : decode code 633 = .ok (.iadd, 1) := by decide +kernel
theorem dL_law_634 : decode code 634 = .ok (.iaload, 1) := by decide +kernel
theorem dL_law_635 : decode code 635 = .ok (.invokevirtual 85, 3) := by decide +kernel
theorem dL_law_638 : decode code 638 = .ok (.if_icmp .eq 592, 3) := by decide +kernel
theorem dL_law_641 : decode code 641 = .ok (.iconst 0, 1) := by decide +kernel
theorem dL_law_643 : decode code 643 = .ok (.aload_n 1, 1) := by decide +kernel
theorem dL_law_644 : decode code 644 = .ok (.aload_n 0, 1) := by decide +kernel
theorem dL_law_645 : decode code 645 = .ok (.iload_n 3, 1) := by decide +kernel
theorem dL_law_646 : decode code 646 = .ok (.iconst 1, 1) := by decide +kernel
theorem dL_law_647 : decode code 647 = .ok (.iadd, 1) := by decide +kernel
theorem dL_law_648 : decode code 648 = .ok (.iaload, 1) := by decide +kernel
theorem dL_law_649 : decode code 649 = .ok (.invokevirtual 86, 3) := by decide +kernel
theorem dL_law_652 : decode code 652 = .ok (.aload_n 2, 1) := by decide +kernel
theorem dL_law_653 : decode code 653 = .ok (.aload_n 0, 1) := by decide +kernel
theorem dL_law_654 : decode code 654 = .ok (.iload_n 3, 1) := by decide +kernel
theorem dL_law_655 : decode code 655 = .ok (.iconst 1, 1) := by decide +kernel
theorem dL_law_656 : decode code 656 = .ok (.iadd, 1) := by decide +kernel
theorem dL_law_657 : decode code 657 = .ok (.iaload, 1) := by decide +kernel
theorem dL_law_658 : decode code 658 = .ok (.invokevirtual 89, 3) := by decide +kernel
theorem dL_law_661 : decode code 661 = .ok (.if_icmp .eq 569, 3) := by decide +kernel
theorem dL_law_664 : decode code 664 = .ok (.iconst 0, 1) := by decide +kernel
theorem dL_law_666 : decode code 666 = .ok (.aload_n 1, 1) := by decide +kernel
theorem dL_law_667 : decode code 667 = .ok (.aload_n 0, 1) := by decide +kernel
theorem dL_law_668 : decode code 668 = .ok (.iload_n 3, 1) := by decide +kernel
theorem dL_law_669 : decode code 669 = .ok (.iconst 1, 1) := by decide +kernel
theorem dL_law_670 : decode code 670 = .ok (.iadd, 1) := by decide +kernel
theorem dL_law_671 : decode code 671 = .ok (.iaload, 1) := by decide +kernel
theorem dL_law_672 : decode code 672 = .ok (.aload_n 0, 1) := by decide +kernel
theorem dL_law_673 : decode code 673 = .ok (.iload_n 3, 1) := by decide +kernel
theorem dL_law_674 : decode code 674 = .ok (.iconst 2, 1) := by decide +kernel
theorem dL_law_675 : decode code 675 = .ok (.iadd, 1) := by decide +kernel
theorem dL_law_676 : decode code 676 = .ok (.iaload, 1) := by decide +kernel
theorem dL_law_677 : decode code 677 = .ok (.invokevirtual 90, 3) := by decide +kernel
theorem dL_law_680 : decode code 680 = .ok (.aload_n 2, 1) := by decide +kernel
theorem dL_law_681 : decode code 681 = .ok (.aload_n 0, 1) := by decide +kernel
theorem dL_law_682 : decode code 682 = .ok (.iload_n 3, 1) := by decide +kernel
theorem dL_law_683 : decode code 683 = .ok (.iconst 1, 1) := by decide +kernel
theorem dL_law_684 : decode code 684 = .ok (.iadd, 1) := by decide +kernel
theorem dL_law_685 : decode code 685 = .ok (.iaload, 1) := by decide +kernel
theorem dL_law_686 : decode code 686 = .ok (.aload_n 0, 1) := by decide +kernel
theorem dL_law_687 : decode code 687 = .ok (.iload_n 3, 1) := by decide +kernel
theorem dL_law_688 : decode code 688 = .ok (.iconst 2, 1) := by decide +kernel
theorem dL_law_689 : decode code 689 = .ok (.iadd, 1) := by decide +kernel
theorem dL_law_690 : decode code 690 = .ok (.iaload, 1) := by decide +kernel
theorem dL_law_691 : decode code 691 = .ok (.invokevirtual 93, 3) := by decide +kernel
theorem dL_law_694 : decode code 694 = .ok (.if_icmp .eq 536, 3) := by decide +kernel
theorem dL_law_697 : decode code 697 = .ok (.iconst 0, 1) := by decide +kernel
theorem dL_law_699 : decode code 699 = .ok (.aload_n 1, 1) := by decide +kernel
theorem dL_law_700 : decode code 700 = .ok (.aload_n 0, 1) := by decide +kernel
theorem dL_law_701 : decode code 701 = .ok (.iload_n 3, 1) := by decide +kernel
theorem dL_law_702 : decode code 702 = .ok (.iconst 1, 1) := by decide +kernel
theorem dL_law_703 : decode code 703 = .ok (.iadd, 1) := by decide +kernel
theorem dL_law_704 : decode code 704 = .ok (.iaload, 1) := by decide +kernel
theorem dL_law_705 : decode code 705 = .ok (.invokevirtual 94, 3) := by decide +kernel
theorem dL_law_708 : decode code 708 = .ok (.aload_n 2, 1) := by decide +kernel
theorem dL_law_709 : decode code 709 = .ok (.aload_n 0, 1) := by decide +kernel
theorem dL_law_710 : decode code 710 = .ok (.iload_n 3, 1) := by decide +kernel
theorem dL_law_711 : decode code 711 = .ok (.iconst 1, 1) := by decide +kernel
theorem dL_law_712 : decode code 712 = .ok (.iadd, 1) := by decide +kernel
theorem dL_law_713 : decode code 713 = .ok (.iaload, 1) := by decide +kernel
theorem dL_law_714 : decode code 714 = .ok (.invokevirtual 97, 3) := by decide +kernel
theorem dL_law_717 : decode code 717 = .ok (.if_icmp .eq 513, 3) := by decide +kernel
theorem dL_law_720 : decode code 720 = .ok (.iconst 0, 1) := by decide +kernel
theorem dL_law_722 : decode code 722 = .ok (.aload_n 1, 1) := by decide +kernel
theorem dL_law_723 : decode code 723 = .ok (.aload_n 0, 1) := by decide +kernel
theorem dL_law_724 : decode code 724 = .ok (.iload_n 3, 1) := by decide +kernel
theorem dL_law_725 : decode code 725 = .ok (.iconst 1, 1) := by decide +kernel
theorem dL_law_726 : decode code 726 = .ok (.iadd, 1) := by decide +kernel
theorem dL_law_727 : decode code 727 = .ok (.iaload, 1) := by decide +kernel
theorem dL_law_728 : decode code 728 = .ok (.aload_n 0, 1) := by decide +kernel
theorem dL_law_729 : decode code 729 = .ok (.iload_n 3, 1) := by decide +kernel
theorem dL_law_730 : decode code 730 = .ok (.iconst 2, 1) := by decide +kernel
theorem dL_law_731 : decode code 731 = .ok (.iadd, 1) := by decide +kernel
theorem dL_law_732 : decode code 732 = .ok (.iaload, 1) := by decide +kernel
theorem dL_law_733 : decode code 733 = .ok (.aload_n 0, 1) := by decide +kernel
theorem dL_law_734 : decode code 734 = .ok (.iload_n 3, 1) := by decide +kernel
theorem dL_law_735 : decode code 735 = .ok (.iconst 3, 1) := by decide +kernel
theorem dL_law_736 : decode code 736 = .ok (.iadd, 1) := by decide +kernel
theorem dL_law_737 : decode code 737 = .ok (.iaload, 1) := by decide +kernel
theorem dL_law_738 : decode code 738 = .ok (.invokevirtual 98, 3) := by decide +kernel
theorem dL_law_741 : decode code 741 = .ok (.aload_n 2, 1) := by decide +kernel
theorem dL_law_742 : decode code 742 = .ok (.aload_n 0, 1) := by decide +kernel
theorem dL_law_743 : decode code 743 = .ok (.iload_n 3, 1) := by decide +kernel
theorem dL_law_744 : decode code 744 = .ok (.iconst 1, 1) := by decide +kernel
theorem dL_law_745 : decode code 745 = .ok (.iadd, 1) := by decide +kernel
theorem dL_law_746 : decode code 746 = .ok (.iaload, 1) := by decide +kernel
theorem dL_law_747 : decode code 747 = .ok (.aload_n 0, 1) := by decide +kernel
theorem dL_law_748 : decode code 748 = .ok (.iload_n 3, 1) := by decide +kernel
theorem dL_law_749 : decode code 749 = .ok (.iconst 2, 1) := by decide +kernel
theorem dL_law_750 : decode code 750 = .ok (.iadd, 1) := by decide +kernel
theorem dL_law_751 : decode code 751 = .ok (.iaload, 1) := by decide +kernel
theorem dL_law_752 : decode code 752 = .ok (.aload_n 0, 1) := by decide +kernel
theorem dL_law_753 : decode code 753 = .ok (.iload_n 3, 1) := by decide +kernel
theorem dL_law_754 : decode code 754 = .ok (.iconst 3, 1) := by decide +kernel
theorem dL_law_755 : decode code 755 = .ok (.iadd, 1) := by decide +kernel
theorem dL_law_756 : decode code 756 = .ok (.iaload, 1) := by decide +kernel
theorem dL_law_757 : decode code 757 = .ok (.invokevirtual 101, 3) := by decide +kernel
theorem dL_law_760 : decode code 760 = .ok (.if_icmp .eq 470, 3) := by decide +kernel
theorem dL_law_763 : decode code 763 = .ok (.iconst 0, 1) := by decide +kernel
theorem dL_law_765 : decode code 765 = .ok (.aload_n 1, 1) := by decide +kernel
theorem dL_law_766 : decode code 766 = .ok (.aload_n 0, 1) := by decide +kernel
theorem dL_law_767 : decode code 767 = .ok (.iload_n 3, 1) := by decide +kernel
theorem dL_law_768 : decode code 768 = .ok (.iconst 1, 1) := by decide +kernel
theorem dL_law_769 : decode code 769 = .ok (.iadd, 1) := by decide +kernel
theorem dL_law_770 : decode code 770 = .ok (.iaload, 1) := by decide +kernel
theorem dL_law_771 : decode code 771 = .ok (.invokevirtual 102, 3) := by decide +kernel
theorem dL_law_774 : decode code 774 = .ok (.aload_n 2, 1) := by decide +kernel
theorem dL_law_775 : decode code 775 = .ok (.aload_n 0, 1) := by decide +kernel
theorem dL_law_776 : decode code 776 = .ok (.iload_n 3, 1) := by decide +kernel
theorem dL_law_777 : decode code 777 = .ok (.iconst 1, 1) := by decide +kernel
theorem dL_law_778 : decode code 778 = .ok (.iadd, 1) := by decide +kernel
theorem dL_law_779 : decode code 779 = .ok (.iaload, 1) := by decide +kernel
theorem dL_law_780 : decode code 780 = .ok (.invokevirtual 105, 3) := by decide +kernel
theorem dL_law_783 : decode code 783 = .ok (.if_icmp .eq 447, 3) := by decide +kernel
theorem dL_law_786 : decode code 786 = .ok (.iconst 0, 1) := by decide +kernel
theorem dL_law_788 : decode code 788 = .ok (.aload_n 1, 1) := by decide +kernel
theorem dL_law_789 : decode code 789 = .ok (.invokevirtual 106, 3) := by decide +kernel
theorem dL_law_792 : decode code 792 = .ok (.aload_n 2, 1) := by decide +kernel
theorem dL_law_793 : decode code 793 = .ok (.invokevirtual 109, 3) := by decide +kernel
theorem dL_law_796 : decode code 796 = .ok (.if_icmp .eq 434, 3) := by decide +kernel
theorem dL_law_799 : decode code 799 = .ok (.iconst 0, 1) := by decide +kernel
theorem dL_law_801 : decode code 801 = .ok (.aload_n 1, 1) := by decide +kernel
theorem dL_law_802 : decode code 802 = .ok (.aload_n 0, 1) := by decide +kernel
theorem dL_law_803 : decode code 803 = .ok (.iload_n 3, 1) := by decide +kernel
theorem dL_law_804 : decode code 804 = .ok (.iconst 1, 1) := by decide +kernel
theorem dL_law_805 : decode code 805 = .ok (.iadd, 1) := by decide +kernel
theorem dL_law_806 : decode code 806 = .ok (.iaload, 1) := by decide +kernel
theorem dL_law_807 : decode code 807 = .ok (.aload_n 0, 1) := by decide +kernel
theorem dL_law_808 : decode code 808 = .ok (.iload_n 3, 1) := by decide +kernel
theorem dL_law_809 : decode code 809 = .ok (.iconst 2, 1) := by decide +kernel
theorem dL_law_810 : decode code 810 = .ok (.iadd, 1) := by decide +kernel
theorem dL_law_811 : decode code 811 = .ok (.iaload, 1) := by decide +kernel
theorem dL_law_812 : decode code 812 = .ok (.invokevirtual 110, 3) := by decide +kernel
theorem dL_law_815 : decode code 815 = .ok (.aload_n 2, 1) := by decide +kernel
theorem dL_law_816 : decode code 816 = .ok (.aload_n 0, 1) := by decide +kernel
theorem dL_law_817 : decode code 817 = .ok (.iload_n 3, 1) := by decide +kernel
theorem dL_law_818 : decode code 818 = .ok (.iconst 1, 1) := by decide +kernel
theorem dL_law_819 : decode code 819 = .ok (.iadd, 1) := by decide +kernel
theorem dL_law_820 : decode code 820 = .ok (.iaload, 1) := by decide +kernel
theorem dL_law_821 : decode code 821 = .ok (.aload_n 0, 1) := by decide +kernel
theorem dL_law_822 : decode code 822 = .ok (.iload_n 3, 1) := by decide +kernel
theorem dL_law_823 : decode code 823 = .ok (.iconst 2, 1) := by decide +kernel
theorem dL_law_824 : decode code 824 = .ok (.iadd, 1) := by decide +kernel
theorem dL_law_825 : decode code 825 = .ok (.iaload, 1) := by decide +kernel
theorem dL_law_826 : decode code 826 = .ok (.invokevirtual 113, 3) := by decide +kernel
theorem dL_law_829 : decode code 829 = .ok (.if_icmp .eq 401, 3) := by decide +kernel
theorem dL_law_832 : decode code 832 = .ok (.iconst 0, 1) := by decide +kernel
theorem dL_law_834 : decode code 834 = .ok (.aload_n 1, 1) := by decide +kernel
theorem dL_law_835 : decode code 835 = .ok (.aload_n 0, 1) := by decide +kernel
theorem dL_law_836 : decode code 836 = .ok (.iload_n 3, 1) := by decide +kernel
theorem dL_law_837 : decode code 837 = .ok (.iconst 1, 1) := by decide +kernel
theorem dL_law_838 : decode code 838 = .ok (.iadd, 1) := by decide +kernel
theorem dL_law_839 : decode code 839 = .ok (.iaload, 1) := by decide +kernel
theorem dL_law_840 : decode code 840 = .ok (.aload_n 0, 1) := by decide +kernel
theorem dL_law_841 : decode code 841 = .ok (.iload_n 3, 1) := by decide +kernel
theorem dL_law_842 : decode code 842 = .ok (.iconst 2, 1) := by decide +kernel
theorem dL_law_843 : decode code 843 = .ok (.iadd, 1) := by decide +kernel
theorem dL_law_844 : decode code 844 = .ok (.iaload, 1) := by decide +kernel
theorem dL_law_845 : decode code 845 = .ok (.invokevirtual 114, 3) := by decide +kernel
theorem dL_law_848 : decode code 848 = .ok (.aload_n 2, 1) := by decide +kernel
theorem dL_law_849 : decode code 849 = .ok (.aload_n 0, 1) := by decide +kernel
theorem dL_law_850 : decode code 850 = .ok (.iload_n 3, 1) := by decide +kernel
theorem dL_law_851 : decode code 851 = .ok (.iconst 1, 1) := by decide +kernel
theorem dL_law_852 : decode code 852 = .ok (.iadd, 1) := by decide +kernel
theorem dL_law_853 : decode code 853 = .ok (.iaload, 1) := by decide +kernel
theorem dL_law_854 : decode code 854 = .ok (.aload_n 0, 1) := by decide +kernel
theorem dL_law_855 : decode code 855 = .ok (.iload_n 3, 1) := by decide +kernel
theorem dL_law_856 : decode code 856 = .ok (.iconst 2, 1) := by decide +kernel
theorem dL_law_857 : decode code 857 = .ok (.iadd, 1) := by decide +kernel
theorem dL_law_858 : decode code 858 = .ok (.iaload, 1) := by decide +kernel
theorem dL_law_859 : decode code 859 = .ok (.invokevirtual 117, 3) := by decide +kernel
theorem dL_law_862 : decode code 862 = .ok (.if_icmp .eq 368, 3) := by decide +kernel
theorem dL_law_865 : decode code 865 = .ok (.iconst 0, 1) := by decide +kernel
theorem dL_law_867 : decode code 867 = .ok (.aload_n 1, 1) := by decide +kernel
theorem dL_law_868 : decode code 868 = .ok (.aload_n 0, 1) := by decide +kernel
theorem dL_law_869 : decode code 869 = .ok (.iload_n 3, 1) := by decide +kernel
theorem dL_law_870 : decode code 870 = .ok (.iconst 1, 1) := by decide +kernel
theorem dL_law_871 : decode code 871 = .ok (.iadd, 1) := by decide +kernel
theorem dL_law_872 : decode code 872 = .ok (.iaload, 1) := by decide +kernel
theorem dL_law_873 : decode code 873 = .ok (.aload_n 0, 1) := by decide +kernel
theorem dL_law_874 : decode code 874 = .ok (.iload_n 3, 1) := by decide +kernel
theorem dL_law_875 : decode code 875 = .ok (.iconst 2, 1) := by decide +kernel
theorem dL_law_876 : decode code 876 = .ok (.iadd, 1) := by decide +kernel
theorem dL_law_877 : decode code 877 = .ok (.iaload, 1) := by decide +kernel
theorem dL_law_878 : decode code 878 = .ok (.invokevirtual 118, 3) := by decide +kernel
theorem dL_law_881 : decode code 881 = .ok (.aload_n 2, 1) := by decide +kernel
theorem dL_law_882 : decode code 882 = .ok (.aload_n 0, 1) := by decide +kernel
theorem dL_law_883 : decode code 883 = .ok (.iload_n 3, 1) := by decide +kernel
theorem dL_law_884 : decode code 884 = .ok (.iconst 1, 1) := by decide +kernel
theorem dL_law_885 : decode code 885 = .ok (.iadd, 1) := by decide +kernel
theorem dL_law_886 : decode code 886 = .ok (.iaload, 1) := by decide +kernel
theorem dL_law_887 : decode code 887 = .ok (.aload_n 0, 1) := by decide +kernel
theorem dL_law_888 : decode code 888 = .ok (.iload_n 3, 1) := by decide +kernel
theorem dL_law_889 : decode code 889 = .ok (.iconst 2, 1) := by decide +kernel
theorem dL_law_890 : decode code 890 = .ok (.iadd, 1) := by decide +kernel
theorem dL_law_891 : decode code 891 = .ok (.iaload, 1) := by decide +kernel
theorem dL_law_892 : decode code 892 = .ok (.invokevirtual 121, 3) := by decide +kernel
theorem dL_law_895 : decode code 895 = .ok (.if_icmp .eq 335, 3) := by decide +kernel
theorem dL_law_898 : decode code 898 = .ok (.iconst 0, 1) := by decide +kernel
theorem dL_law_900 : decode code 900 = .ok (.aload_n 1, 1) := by decide +kernel
theorem dL_law_901 : decode code 901 = .ok (.aload_n 0, 1) := by decide +kernel
theorem dL_law_902 : decode code 902 = .ok (.iload_n 3, 1) := by decide +kernel
theorem dL_law_903 : decode code 903 = .ok (.iconst 1, 1) := by decide +kernel
theorem dL_law_904 : decode code 904 = .ok (.iadd, 1) := by decide +kernel
theorem dL_law_905 : decode code 905 = .ok (.iaload, 1) := by decide +kernel
theorem dL_law_906 : decode code 906 = .ok (.aload_n 0, 1) := by decide +kernel
theorem dL_law_907 : decode code 907 = .ok (.iload_n 3, 1) := by decide +kernel
theorem dL_law_908 : decode code 908 = .ok (.iconst 2, 1) := by decide +kernel
theorem dL_law_909 : decode code 909 = .ok (.iadd, 1) := by decide +kernel
theorem dL_law_910 : decode code 910 = .ok (.iaload, 1) := by decide +kernel
theorem dL_law_911 : decode code 911 = .ok (.aload_n 0, 1) := by decide +kernel
theorem dL_law_912 : decode code 912 = .ok (.iload_n 3, 1) := by decide +kernel
theorem dL_law_913 : decode code 913 = .ok (.iconst 3, 1) := by decide +kernel
theorem dL_law_914 : decode code 914 = .ok (.iadd, 1) := by decide +kernel
theorem dL_law_915 : decode code 915 = .ok (.iaload, 1) := by decide +kernel
theorem dL_law_916 : decode code 916 = .ok (.aload_n 0, 1) := by decide +kernel
theorem dL_law_917 : decode code 917 = .ok (.iload_n 3, 1) := by decide +kernel
theorem dL_law_918 : decode code 918 = .ok (.iconst 4, 1) := by decide +kernel
theorem dL_law_919 : decode code 919 = .ok (.iadd, 1) := by decide +kernel
theorem dL_law_920 : decode code 920 = .ok (.iaload, 1) := by decide +kernel
theorem dL_law_921 : decode code 921 = .ok (.invokevirtual 122, 3) := by decide +kernel
theorem dL_law_924 : decode code 924 = .ok (.aload_n 2, 1) := by decide +kernel
theorem dL_law_925 : decode code 925 = .ok (.aload_n 0, 1) := by decide +kernel
theorem dL_law_926 : decode code 926 = .ok (.iload_n 3, 1) := by decide +kernel
theorem dL_law_927 : decode code 927 = .ok (.iconst 1, 1) := by decide +kernel
theorem dL_law_928 : decode code 928 = .ok (.iadd, 1) := by decide +kernel
theorem dL_law_929 : decode code 929 = .ok (.iaload, 1) := by decide +kernel
theorem dL_law_930 : decode code 930 = .ok (.aload_n 0, 1) := by decide +kernel
theorem dL_law_931 : decode code 931 = .ok (.iload_n 3, 1) := by decide +kernel
theorem dL_law_932 : decode code 932 = .ok (.iconst 2, 1) := by decide +kernel
theorem dL_law_933 : decode code 933 = .ok (.iadd, 1) := by decide +kernel
theorem dL_law_934 : decode code 934 = .ok (.iaload, 1) := by decide +kernel
theorem dL_law_935 : decode code 935 = .ok (.aload_n 0, 1) := by decide +kernel
theorem dL_law_936 : decode code 936 = .ok (.iload_n 3, 1) := by decide +kernel
theorem dL_law_937 : decode code 937 = .ok (.iconst 3, 1) := by decide +kernel
theorem dL_law_938 : decode code 938 = .ok (.iadd, 1) := by decide +kernel
theorem dL_law_939 : decode code 939 = .ok (.iaload, 1) := by decide +kernel
theorem dL_law_940 : decode code 940 = .ok (.aload_n 0, 1) := by decide +kernel
theorem dL_law_941 : decode code 941 = .ok (.iload_n 3, 1) := by decide +kernel
theorem dL_law_942 : decode code 942 = .ok (.iconst 4, 1) := by decide +kernel
theorem dL_law_943 : decode code 943 = .ok (.iadd, 1) := by decide +kernel
theorem dL_law_944 : decode code 944 = .ok (.iaload, 1) := by decide +kernel
theorem dL_law_945 : decode code 945 = .ok (.invokevirtual 126, 3) := by decide +kernel
theorem dL_law_948 : decode code 948 = .ok (.if_icmp .eq 282, 3) := by decide +kernel
theorem dL_law_951 : decode code 951 = .ok (.iconst 0, 1) := by decide +kernel
theorem dL_law_953 : decode code 953 = .ok (.aload_n 1, 1) := by decide +kernel
theorem dL_law_954 : decode code 954 = .ok (.aload_n 0, 1) := by decide +kernel
theorem dL_law_955 : decode code 955 = .ok (.iload_n 3, 1) := by decide +kernel
theorem dL_law_956 : decode code 956 = .ok (.iconst 1, 1) := by decide +kernel
theorem dL_law_957 : decode code 957 = .ok (.iadd, 1) := by decide +kernel
theorem dL_law_958 : decode code 958 = .ok (.iaload, 1) := by decide +kernel
theorem dL_law_959 : decode code 959 = .ok (.aload_n 0, 1) := by decide +kernel
theorem dL_law_960 : decode code 960 = .ok (.iload_n 3, 1) := by decide +kernel
theorem dL_law_961 : decode code 961 = .ok (.iconst 2, 1) := by decide +kernel
theorem dL_law_962 : decode code 962 = .ok (.iadd, 1) := by decide +kernel
theorem dL_law_963 : decode code 963 = .ok (.iaload, 1) := by decide +kernel
theorem dL_law_964 : decode code 964 = .ok (.invokevirtual 127, 3) := by decide +kernel
theorem dL_law_967 : decode code 967 = .ok (.aload_n 2, 1) := by decide +kernel
theorem dL_law_968 : decode code 968 = .ok (.aload_n 0, 1) := by decide +kernel
theorem dL_law_969 : decode code 969 = .ok (.iload_n 3, 1) := by decide +kernel
theorem dL_law_970 : decode code 970 = .ok (.iconst 1, 1) := by decide +kernel
theorem dL_law_971 : decode code 971 = .ok (.iadd, 1) := by decide +kernel
theorem dL_law_972 : decode code 972 = .ok (.iaload, 1) := by decide +kernel
theorem dL_law_973 : decode code 973 = .ok (.aload_n 0, 1) := by decide +kernel
theorem dL_law_974 : decode code 974 = .ok (.iload_n 3, 1) := by decide +kernel
theorem dL_law_975 : decode code 975 = .ok (.iconst 2, 1) := by decide +kernel
theorem dL_law_976 : decode code 976 = .ok (.iadd, 1) := by decide +kernel
theorem dL_law_977 : decode code 977 = .ok (.iaload, 1) := by decide +kernel
theorem dL_law_978 : decode code 978 = .ok (.invokevirtual 130, 3) := by decide +kernel
theorem dL_law_981 : decode code 981 = .ok (.if_icmp .eq 249, 3) := by decide +kernel
theorem dL_law_984 : decode code 984 = .ok (.iconst 0, 1) := by decide +kernel
theorem dL_law_986 : decode code 986 = .ok (.aload_n 1, 1) := by decide +kernel
theorem dL_law_987 : decode code 987 = .ok (.aload_n 0, 1) := by decide +kernel
theorem dL_law_988 : decode code 988 = .ok (.iload_n 3, 1) := by decide +kernel
theorem dL_law_989 : decode code 989 = .ok (.iconst 1, 1) := by decide +kernel
theorem dL_law_990 : decode code 990 = .ok (.iadd, 1) := by decide +kernel
theorem dL_law_991 : decode code 991 = .ok (.iaload, 1) := by decide +kernel
theorem dL_law_992 : decode code 992 = .ok (.aload_n 0, 1) := by decide +kernel
theorem dL_law_993 : decode code 993 = .ok (.iload_n 3, 1) := by decide +kernel
theorem dL_law_994 : decode code 994 = .ok (.iconst 2, 1) := by decide +kernel
theorem dL_law_995 : decode code 995 = .ok (.iadd, 1) := by decide +kernel
theorem dL_law_996 : decode code 996 = .ok (.iaload, 1) := by decide +kernel
theorem dL_law_997 : decode code 997 = .ok (.aload_n 0, 1) := by decide +kernel
theorem dL_law_998 : decode code 998 = .ok (.iload_n 3, 1) := by decide +kernel
theorem dL_law_999 : decode code 999 = .ok (.iconst 3, 1) := by decide +kernel
theorem dL_law_1000 : decode code 1000 = .ok (.iadd, 1) := by decide +kernel
theorem dL_law_1001 : decode code 1001 = .ok (.iaload, 1) := by decide +kernel
theorem dL_law_1002 : decode code 1002 = .ok (.invokevirtual 131, 3) := by decide +kernel
theorem dL_law_1005 : decode code 1005 = .ok (.aload_n 2, 1) := by decide +kernel
theorem dL_law_1006 : decode code 1006 = .ok (.aload_n 0, 1) := by decide +kernel
theorem dL_law_1007 : decode code 1007 = .ok (.iload_n 3, 1) := by decide +kernel
theorem dL_law_1008 : decode code 1008 = .ok (.iconst 1, 1) := by decide +kernel
theorem dL_law_1009 : decode code 1009 = .ok (.iadd, 1) := by decide +kernel
theorem dL_law_1010 : decode code 1010 = .ok (.iaload, 1) := by decide +kernel
theorem dL_law_1011 : decode code 1011 = .ok (.aload_n 0, 1) := by decide +kernel
theorem dL_law_1012 : decode code 1012 = .ok (.iload_n 3, 1) := by decide +kernel
theorem dL_law_1013 : decode code 1013 = .ok (.iconst 2, 1) := by decide +kernel
theorem dL_law_1014 : decode code 1014 = .ok (.iadd, 1) := by decide +kernel
theorem dL_law_1015 : decode code 1015 = .ok (.iaload, 1) := by decide +kernel
theorem dL_law_1016 : decode code 1016 = .ok (.aload_n 0, 1) := by decide +kernel
theorem dL_law_1017 : decode code 1017 = .ok (.iload_n 3, 1) := by decide +kernel
theorem dL_law_1018 : decode code 1018 = .ok (.iconst 3, 1) := by decide +kernel
theorem dL_law_1019 : decode code 1019 = .ok (.iadd, 1) := by decide +kernel
theorem dL_law_1020 : decode code 1020 = .ok (.iaload, 1) := by decide +kernel
theorem dL_law_1021 : decode code 1021 = .ok (.invokevirtual 134, 3) := by decide +kernel
theorem dL_law_1024 : decode code 1024 = .ok (.if_icmp .eq 206, 3) := by decide +kernel
theorem dL_law_1027 : decode code 1027 = .ok (.iconst 0, 1) := by decide +kernel
theorem dL_law_1029 : decode code 1029 = .ok (.aload_n 1, 1) := by decide +kernel
theorem dL_law_1030 : decode code 1030 = .ok (.aload_n 0, 1) := by decide +kernel
theorem dL_law_1031 : decode code 1031 = .ok (.iload_n 3, 1) := by decide +kernel
theorem dL_law_1032 : decode code 1032 = .ok (.iconst 1, 1) := by decide +kernel
theorem dL_law_1033 : decode code 1033 = .ok (.iadd, 1) := by decide +kernel
theorem dL_law_1034 : decode code 1034 = .ok (.iaload, 1) := by decide +kernel
theorem dL_law_1035 : decode code 1035 = .ok (.invokevirtual 135, 3) := by decide +kernel
theorem dL_law_1038 : decode code 1038 = .ok (.aload_n 2, 1) := by decide +kernel
theorem dL_law_1039 : decode code 1039 = .ok (.aload_n 0, 1) := by decide +kernel
theorem dL_law_1040 : decode code 1040 = .ok (.iload_n 3, 1) := by decide +kernel
theorem dL_law_1041 : decode code 1041 = .ok (.iconst 1, 1) := by decide +kernel
theorem dL_law_1042 : decode code 1042 = .ok (.iadd, 1) := by decide +kernel
theorem dL_law_1043 : decode code 1043 = .ok (.iaload, 1) := by decide +kernel
theorem dL_law_1044 : decode code 1044 = .ok (.invokevirtual 138, 3) := by decide +kernel
theorem dL_law_1047 : decode code 1047 = .ok (.if_icmp .eq 183, 3) := by decide +kernel
theorem dL_law_1050 : decode code 1050 = .ok (.iconst 0, 1) := by decide +kernel
theorem dL_law_1052 : decode code 1052 = .ok (.aload_n 1, 1) := by decide +kernel
theorem dL_law_1053 : decode code 1053 = .ok (.aload_n 0, 1) := by decide +kernel
theorem dL_law_1054 : decode code 1054 = .ok (.iload_n 3, 1) := by decide +kernel
theorem dL_law_1055 : decode code 1055 = .ok (.iconst 1, 1) := by decide +kernel
theorem dL_law_1056 : decode code 1056 = .ok (.iadd, 1) := by decide +kernel
theorem dL_law_1057 : decode code 1057 = .ok (.iaload, 1) := by decide +kernel
theorem dL_law_1058 : decode code 1058 = .ok (.aload_n 0, 1) := by decide +kernel
theorem dL_law_1059 : decode code 1059 = .ok (.iload_n 3, 1) := by decide +kernel
theorem dL_law_1060 : decode code 1060 = .ok (.iconst 2, 1) := by decide +kernel
theorem dL_law_1061 : decode code 1061 = .ok (.iadd, 1) := by decide +kernel
theorem dL_law_1062 : decode code 1062 = .ok (.iaload, 1) := by decide +kernel
theorem dL_law_1063 : decode code 1063 = .ok (.invokevirtual 139, 3) := by decide +kernel
theorem dL_law_1066 : decode code 1066 = .ok (.aload_n 2, 1) := by decide +kernel
theorem dL_law_1067 : decode code 1067 = .ok (.aload_n 0, 1) := by decide +kernel
theorem dL_law_1068 : decode code 1068 = .ok (.iload_n 3, 1) := by decide +kernel
theorem dL_law_1069 : decode code 1069 = .ok (.iconst 1, 1) := by decide +kernel
theorem dL_law_1070 : decode code 1070 = .ok (.iadd, 1) := by decide +kernel
theorem dL_law_1071 : decode code 1071 = .ok (.iaload, 1) := by decide +kernel
theorem dL_law_1072 : decode code 1072 = .ok (.aload_n 0, 1) := by decide +kernel
theorem dL_law_1073 : decode code 1073 = .ok (.iload_n 3, 1) := by decide +kernel
theorem dL_law_1074 : decode code 1074 = .ok (.iconst 2, 1) := by decide +kernel
theorem dL_law_1075 : decode code 1075 = .ok (.iadd, 1) := by decide +kernel
theorem dL_law_1076 : decode code 1076 = .ok (.iaload, 1) := by decide +kernel
theorem dL_law_1077 : decode code 1077 = .ok (.invokevirtual 142, 3) := by decide +kernel
theorem dL_law_1080 : decode code 1080 = .ok (.if_icmp .eq 150, 3) := by decide +kernel
theorem dL_law_1083 : decode code 1083 = .ok (.iconst 0, 1) := by decide +kernel
theorem dL_law_1085 : decode code 1085 = .ok (.aload_n 1, 1) := by decide +kernel
theorem dL_law_1086 : decode code 1086 = .ok (.aload_n 0, 1) := by decide +kernel
theorem dL_law_1087 : decode code 1087 = .ok (.iload_n 3, 1) := by decide +kernel
theorem dL_law_1088 : decode code 1088 = .ok (.iconst 1, 1) := by decide +kernel
theorem dL_law_1089 : decode code 1089 = .ok (.iadd, 1) := by decide +kernel
theorem dL_law_1090 : decode code 1090 = .ok (.iaload, 1) := by decide +kernel
theorem dL_law_1091 : decode code 1091 = .ok (.invokevirtual 143, 3) := by decide +kernel
theorem dL_law_1094 : decode code 1094 = .ok (.aload_n 2, 1) := by decide +kernel
theorem dL_law_1095 : decode code 1095 = .ok (.aload_n 0, 1) := by decide +kernel
theorem dL_law_1096 : decode code 1096 = .ok (.iload_n 3, 1) := by decide +kernel
theorem dL_law_1097 : decode code 1097 = .ok (.iconst 1, 1) := by decide +kernel
theorem dL_law_1098 : decode code 1098 = .ok (.iadd, 1) := by decide +kernel
theorem dL_law_1099 : decode code 1099 = .ok (.iaload, 1) := by decide +kernel
theorem dL_law_1100 : decode code 1100 = .ok (.invokevirtual 146, 3) := by decide +kernel
theorem dL_law_1103 : decode code 1103 = .ok (.if_icmp .eq 127, 3) := by decide +kernel
theorem dL_law_1106 : decode code 1106 = .ok (.iconst 0, 1) := by decide +kernel
theorem dL_law_1108 : decode code 1108 = .ok (.aload_n 1, 1) := by decide +kernel
theorem dL_law_1109 : decode code 1109 = .ok (.aload_n 0, 1) := by decide +kernel
theorem dL_law_1110 : decode code 1110 = .ok (.iload_n 3, 1) := by decide +kernel
theorem dL_law_1111 : decode code 1111 = .ok (.iconst 1, 1) := by decide +kernel
theorem dL_law_1112 : decode code 1112 = .ok (.iadd, 1) := by decide +kernel
theorem dL_law_1113 : decode code 1113 = .ok (.iaload, 1) := by decide +kernel
theorem dL_law_1114 : decode code 1114 = .ok (.aload_n 0, 1) := by decide +kernel
theorem dL_law_1115 : decode code 1115 = .ok (.iload_n 3, 1) := by decide +kernel
theorem dL_law_1116 : decode code 1116 = .ok (.iconst 2, 1) := by decide +kernel
theorem dL_law_1117 : decode code 1117 = .ok (.iadd, 1) := by decide +kernel
theorem dL_law_1118 : decode code 1118 = .ok (.iaload, 1) := by decide +kernel
theorem dL_law_1119 : decode code 1119 = .ok (.aload_n 0, 1) := by decide +kernel
theorem dL_law_1120 : decode code 1120 = .ok (.iload_n 3, 1) := by decide +kernel
theorem dL_law_1121 : decode code 1121 = .ok (.iconst 3, 1) := by decide +kernel
theorem dL_law_1122 : decode code 1122 = .ok (.iadd, 1) := by decide +kernel
theorem dL_law_1123 : decode code 1123 = .ok (.iaload, 1) := by decide +kernel
theorem dL_law_1124 : decode code 1124 = .ok (.aload_n 0, 1) := by decide +kernel
theorem dL_law_1125 : decode code 1125 = .ok (.iload_n 3, 1) := by decide +kernel
theorem dL_law_1126 : decode code 1126 = .ok (.iconst 4, 1) := by decide +kernel
theorem dL_law_1127 : decode code 1127 = .ok (.iadd, 1) := by decide +kernel
theorem dL_law_1128 : decode code 1128 = .ok (.iaload, 1) := by decide +kernel
theorem dL_law_1129 : decode code 1129 = .ok (.invokevirtual 147, 3) := by decide +kernel
theorem dL_law_1132 : decode code 1132 = .ok (.aload_n 2, 1) := by decide +kernel
theorem dL_law_1133 : decode code 1133 = .ok (.aload_n 0, 1) := by decide +kernel
theorem dL_law_1134 : decode code 1134 = .ok (.iload_n 3, 1) := by decide +kernel
theorem dL_law_1135 : decode code 1135 = .ok (.iconst 1, 1) := by decide +kernel
theorem dL_law_1136 : decode code 1136 = .ok (.iadd, 1) := by decide +kernel
theorem dL_law_1137 : decode code 1137 = .ok (.iaload, 1) := by decide +kernel
theorem dL_law_1138 : decode code 1138 = .ok (.aload_n 0, 1) := by decide +kernel
theorem dL_law_1139 : decode code 1139 = .ok (.iload_n 3, 1) := by decide +kernel
theorem dL_law_1140 : decode code 1140 = .ok (.iconst 2, 1) := by decide +kernel
theorem dL_law_1141 : decode code 1141 = .ok (.iadd, 1) := by decide +kernel
theorem dL_law_1142 : decode code 1142 = .ok (.iaload, 1) := by decide +kernel
theorem dL_law_1143 : decode code 1143 = .ok (.aload_n 0, 1) := by decide +kernel
theorem dL_law_1144 : decode code 1144 = .ok (.iload_n 3, 1) := by decide +kernel
theorem dL_law_1145 : decode code 1145 = .ok (.iconst 3, 1) := by decide +kernel
theorem dL_law_1146 : decode code 1146 = .ok (.iadd, 1) := by decide +kernel
theorem dL_law_1147 : decode code 1147 = .ok (.iaload, 1) := by decide +kernel
theorem dL_law_1148 : decode code 1148 = .ok (.aload_n 0, 1) := by decide +kernel
theorem dL_law_1149 : decode code 1149 = .ok (.iload_n 3, 1) := by decide +kernel
theorem dL_law_1150 : decode code 1150 = .ok (.iconst 4, 1) := by decide +kernel
theorem dL_law_1151 : decode code 1151 = .ok (.iadd, 1) := by decide +kernel
theorem dL_law_1152 : decode code 1152 = .ok (.iaload, 1) := by decide +kernel
theorem dL_law_1153 : decode code 1153 = .ok (.invokevirtual 150, 3) := by decide +kernel
theorem dL_law_1156 : decode code 1156 = .ok (.if_icmp .eq 74, 3) := by decide +kernel
theorem dL_law_1159 : decode code 1159 = .ok (.iconst 0, 1) := by decide +kernel
theorem dL_law_1161 : decode code 1161 = .ok (.aload_n 1, 1) := by decide +kernel
theorem dL_law_1162 : decode code 1162 = .ok (.aload_n 0, 1) := by decide +kernel
theorem dL_law_1163 : decode code 1163 = .ok (.iload_n 3, 1) := by decide +kernel
theorem dL_law_1164 : decode code 1164 = .ok (.iconst 1, 1) := by decide +kernel
theorem dL_law_1165 : decode code 1165 = .ok (.iadd, 1) := by decide +kernel
theorem dL_law_1166 : decode code 1166 = .ok (.iaload, 1) := by decide +kernel
theorem dL_law_1167 : decode code 1167 = .ok (.invokevirtual 151, 3) := by decide +kernel
theorem dL_law_1170 : decode code 1170 = .ok (.aload_n 2, 1) := by decide +kernel
theorem dL_law_1171 : decode code 1171 = .ok (.aload_n 0, 1) := by decide +kernel
theorem dL_law_1172 : decode code 1172 = .ok (.iload_n 3, 1) := by decide +kernel
theorem dL_law_1173 : decode code 1173 = .ok (.iconst 1, 1) := by decide +kernel
theorem dL_law_1174 : decode code 1174 = .ok (.iadd, 1) := by decide +kernel
theorem dL_law_1175 : decode code 1175 = .ok (.iaload, 1) := by decide +kernel
theorem dL_law_1176 : decode code 1176 = .ok (.invokevirtual 154, 3) := by decide +kernel
theorem dL_law_1179 : decode code 1179 = .ok (.if_icmp .eq 51, 3) := by decide +kernel
theorem dL_law_1182 : decode code 1182 = .ok (.iconst 0, 1) := by decide +kernel
theorem dL_law_1184 : decode code 1184 = .ok (.aload_n 1, 1) := by decide +kernel
theorem dL_law_1185 : decode code 1185 = .ok (.aload_n 0, 1) := by decide +kernel
theorem dL_law_1186 : decode code 1186 = .ok (.iload_n 3, 1) := by decide +kernel
theorem dL_law_1187 : decode code 1187 = .ok (.iconst 1, 1) := by decide +kernel
theorem dL_law_1188 : decode code 1188 = .ok (.iadd, 1) := by decide +kernel
theorem dL_law_1189 : decode code 1189 = .ok (.iaload, 1) := by decide +kernel
theorem dL_law_1190 : decode code 1190 = .ok (.invokevirtual 155, 3) := by decide +kernel
theorem dL_law_1193 : decode code 1193 = .ok (.aload_n 2, 1) := by decide +kernel
theorem dL_law_1194 : decode code 1194 = .ok (.aload_n 0, 1) := by decide +kernel
theorem dL_law_1195 : decode code 1195 = .ok (.iload_n 3, 1) := by decide +kernel
theorem dL_law_1196 : decode code 1196 = .ok (.iconst 1, 1) := by decide +kernel
theorem dL_law_1197 : decode code 1197 = .ok (.iadd, 1) := by decide +kernel
theorem dL_law_1198 : decode code 1198 = .ok (.iaload, 1) := by decide +kernel
theorem dL_law_1199 : decode code 1199 = .ok (.invokevirtual 158, 3) := by decide +kernel
theorem dL_law_1202 : decode code 1202 = .ok (.if_icmp .eq 28, 3) := by decide +kernel
theorem dL_law_1205 : decode code 1205 = .ok (.iconst 0, 1) := by decide +kernel
theorem dL_law_1207 : decode code 1207 = .ok (.aload_n 1, 1) := by decide +kernel
theorem dL_law_1208 : decode code 1208 = .ok (.aload_n 0, 1) := by decide +kernel
theorem dL_law_1209 : decode code 1209 = .ok (.iload_n 3, 1) := by decide +kernel
theorem dL_law_1210 : decode code 1210 = .ok (.iconst 1, 1) := by decide +kernel
theorem dL_law_1211 : decode code 1211 = .ok (.iadd, 1) := by decide +kernel
theorem dL_law_1212 : decode code 1212 = .ok (.iaload, 1) := by decide +kernel
theorem dL_law_1213 : decode code 1213 = .ok (.invokevirtual 159, 3) := by decide +kernel
theorem dL_law_1216 : decode code 1216 = .ok (.aload_n 2, 1) := by decide +kernel
theorem dL_law_1217 : decode code 1217 = .ok (.aload_n 0, 1) := by decide +kernel
theorem dL_law_1218 : decode code 1218 = .ok (.iload_n 3, 1) := by decide +kernel
theorem dL_law_1219 : decode code 1219 = .ok (.iconst 1, 1) := by decide +kernel
theorem dL_law_1220 : decode code 1220 = .ok (.iadd, 1) := by decide +kernel
theorem dL_law_1221 : decode code 1221 = .ok (.iaload, 1) := by decide +kernel
theorem dL_law_1222 : decode code 1222 = .ok (.invokevirtual 162, 3) := by decide +kernel
theorem dL_law_1225 : decode code 1225 = .ok (.if_icmp .eq 5, 3) := by decide +kernel
theorem dL_law_1228 : decode code 1228 = .ok (.iconst 0, 1) := by decide +kernel
theorem dL_law_1230 : decode code 1230 = .ok (.iinc 3 6, 3) := by decide +kernel
theorem dL_law_1233 : decode code 1233 = .ok (.goto (-1215), 3) := by decide +kernel
theorem dL_law_1236 : decode code 1236 = .ok (.iconst 1, 1) := by decide +kernel
theorem dL_law_1237 : decode code 1237 = .ok (.ireturn, 1) := by decide +kernel
def law_C0 (N L : Nat) (xs : Nat → Int32) (h : Int × jMem × jMem → Option Int) (i : Int) (X Y : jMem) : Option Int := jchk (0 ≤ (w32 (i + 1)) ∧ (w32 (i + 1)) < (L : Int)) <| jchk (0 ≤ (w32 (i + 2)) ∧ (w32 (i + 2)) < (L : Int)) <| jchk (0 ≤ (w32 (i + 3)) ∧ (w32 (i + 3)) < (L : Int)) <| jchk (0 ≤ (w32 (i + 4)) ∧ (w32 (i + 4)) < (L : Int)) <| jchk (0 ≤ (w32 (i + 5)) ∧ (w32 (i + 5)) < (L : Int)) <| jb1 (x_feed N ((jsx xs ((w32 (i + 1))))) ((jsx xs ((w32 (i + 2))))) ((jsx xs ((w32 (i + 3))))) ((jsx xs ((w32 (i + 4))))) ((jsx xs ((w32 (i + 5))))) X) fun r9 M10 => jchk (0 ≤ (w32 (i + 1)) ∧ (w32 (i + 1)) < (L : Int)) <| jchk (0 ≤ (w32 (i + 2)) ∧ (w32 (i + 2)) < (L : Int)) <| jchk (0 ≤ (w32 (i + 3)) ∧ (w32 (i + 3)) < (L : Int)) <| jchk (0 ≤ (w32 (i + 4)) ∧ (w32 (i + 4)) < (L : Int)) <| jchk (0 ≤ (w32 (i + 5)) ∧ (w32 (i + 5)) < (L : Int)) <| jb1 (m_feed N ((jsx xs ((w32 (i + 1))))) ((jsx xs ((w32 (i + 2))))) ((jsx xs ((w32 (i + 3))))) ((jsx xs ((w32 (i + 4))))) ((jsx xs ((w32 (i + 5))))) Y) fun r16 M17 => (if r9 = r16 then h ((w32 (i + 6)), M10, M17) else some 0)
def law_C1 (N L : Nat) (xs : Nat → Int32) (h : Int × jMem × jMem → Option Int) (i : Int) (X Y : jMem) : Option Int := jchk (0 ≤ (w32 (i + 1)) ∧ (w32 (i + 1)) < (L : Int)) <| jb1 (x_end N ((jsx xs ((w32 (i + 1))))) X) fun r20 M21 => jchk (0 ≤ (w32 (i + 1)) ∧ (w32 (i + 1)) < (L : Int)) <| jb1 (m_end N ((jsx xs ((w32 (i + 1))))) Y) fun r23 M24 => (if r20 = r23 then h ((w32 (i + 6)), M21, M24) else some 0)
def law_C2 (N L : Nat) (xs : Nat → Int32) (h : Int × jMem × jMem → Option Int) (i : Int) (X Y : jMem) : Option Int := jb1 (x_parish N  X) fun r26 M27 => jb1 (m_parish N  Y) fun r28 M29 => (if r26 = r28 then h ((w32 (i + 6)), M27, M29) else some 0)
def law_C3 (N L : Nat) (xs : Nat → Int32) (h : Int × jMem × jMem → Option Int) (i : Int) (X Y : jMem) : Option Int := jb1 (x_rule N  X) fun r31 M32 => jb1 (m_rule N  Y) fun r33 M34 => (if r31 = r33 then h ((w32 (i + 6)), M32, M34) else some 0)
def law_C4 (N L : Nat) (xs : Nat → Int32) (h : Int × jMem × jMem → Option Int) (i : Int) (X Y : jMem) : Option Int := jchk (0 ≤ (w32 (i + 1)) ∧ (w32 (i + 1)) < (L : Int)) <| jb1 (x_force N ((jsx xs ((w32 (i + 1))))) X) fun r37 M38 => jchk (0 ≤ (w32 (i + 1)) ∧ (w32 (i + 1)) < (L : Int)) <| jb1 (m_force N ((jsx xs ((w32 (i + 1))))) Y) fun r40 M41 => (if r37 = r40 then h ((w32 (i + 6)), M38, M41) else some 0)
def law_C5 (N L : Nat) (xs : Nat → Int32) (h : Int × jMem × jMem → Option Int) (i : Int) (X Y : jMem) : Option Int := jchk (0 ≤ (w32 (i + 1)) ∧ (w32 (i + 1)) < (L : Int)) <| jchk (0 ≤ (w32 (i + 2)) ∧ (w32 (i + 2)) < (L : Int)) <| (x_well N ((jsx xs ((w32 (i + 1))))) ((jsx xs ((w32 (i + 2))))) X).bind fun r45 => jchk (0 ≤ (w32 (i + 1)) ∧ (w32 (i + 1)) < (L : Int)) <| jchk (0 ≤ (w32 (i + 2)) ∧ (w32 (i + 2)) < (L : Int)) <| (m_well N ((jsx xs ((w32 (i + 1))))) ((jsx xs ((w32 (i + 2))))) Y).bind fun r48 => (if r45 = r48 then h ((w32 (i + 6)), X, Y) else some 0)
def law_C6 (N L : Nat) (xs : Nat → Int32) (h : Int × jMem × jMem → Option Int) (i : Int) (X Y : jMem) : Option Int := jchk (0 ≤ (w32 (i + 1)) ∧ (w32 (i + 1)) < (L : Int)) <| jchk (0 ≤ (w32 (i + 2)) ∧ (w32 (i + 2)) < (L : Int)) <| (x_farm N ((jsx xs ((w32 (i + 1))))) ((jsx xs ((w32 (i + 2))))) X).bind fun r52 => jchk (0 ≤ (w32 (i + 1)) ∧ (w32 (i + 1)) < (L : Int)) <| jchk (0 ≤ (w32 (i + 2)) ∧ (w32 (i + 2)) < (L : Int)) <| (m_farm N ((jsx xs ((w32 (i + 1))))) ((jsx xs ((w32 (i + 2))))) Y).bind fun r55 => (if r52 = r55 then h ((w32 (i + 6)), X, Y) else some 0)
def law_C7 (N L : Nat) (xs : Nat → Int32) (h : Int × jMem × jMem → Option Int) (i : Int) (X Y : jMem) : Option Int := (x_lie N  X).bind fun r57 => (m_lie N  Y).bind fun r58 => (if r57 = r58 then h ((w32 (i + 6)), X, Y) else some 0)
def law_C8 (N L : Nat) (xs : Nat → Int32) (h : Int × jMem × jMem → Option Int) (i : Int) (X Y : jMem) : Option Int := jb1 (x_year N  X) fun r60 M61 => jb1 (m_year N  Y) fun r62 M63 => (if r60 = r62 then h ((w32 (i + 6)), M61, M63) else some 0)
def law_C9 (N L : Nat) (xs : Nat → Int32) (h : Int × jMem × jMem → Option Int) (i : Int) (X Y : jMem) : Option Int := jchk (0 ≤ (w32 (i + 1)) ∧ (w32 (i + 1)) < (L : Int)) <| jchk (0 ≤ (w32 (i + 2)) ∧ (w32 (i + 2)) < (L : Int)) <| jb1 (x_wed N ((jsx xs ((w32 (i + 1))))) ((jsx xs ((w32 (i + 2))))) X) fun r67 M68 => jchk (0 ≤ (w32 (i + 1)) ∧ (w32 (i + 1)) < (L : Int)) <| jchk (0 ≤ (w32 (i + 2)) ∧ (w32 (i + 2)) < (L : Int)) <| jb1 (m_wed N ((jsx xs ((w32 (i + 1))))) ((jsx xs ((w32 (i + 2))))) Y) fun r71 M72 => (if r67 = r71 then h ((w32 (i + 6)), M68, M72) else some 0)
def law_C10 (N L : Nat) (xs : Nat → Int32) (h : Int × jMem × jMem → Option Int) (i : Int) (X Y : jMem) : Option Int := jchk (0 ≤ (w32 (i + 1)) ∧ (w32 (i + 1)) < (L : Int)) <| jchk (0 ≤ (w32 (i + 2)) ∧ (w32 (i + 2)) < (L : Int)) <| jb1 (x_pour N ((jsx xs ((w32 (i + 1))))) ((jsx xs ((w32 (i + 2))))) X) fun r76 M77 => jchk (0 ≤ (w32 (i + 1)) ∧ (w32 (i + 1)) < (L : Int)) <| jchk (0 ≤ (w32 (i + 2)) ∧ (w32 (i + 2)) < (L : Int)) <| jb1 (m_pour N ((jsx xs ((w32 (i + 1))))) ((jsx xs ((w32 (i + 2))))) Y) fun r80 M81 => (if r76 = r80 then h ((w32 (i + 6)), M77, M81) else some 0)
def law_C11 (N L : Nat) (xs : Nat → Int32) (h : Int × jMem × jMem → Option Int) (i : Int) (X Y : jMem) : Option Int := jchk (0 ≤ (w32 (i + 1)) ∧ (w32 (i + 1)) < (L : Int)) <| jchk (0 ≤ (w32 (i + 2)) ∧ (w32 (i + 2)) < (L : Int)) <| jb1 (x_dig N ((jsx xs ((w32 (i + 1))))) ((jsx xs ((w32 (i + 2))))) X) fun r85 M86 => jchk (0 ≤ (w32 (i + 1)) ∧ (w32 (i + 1)) < (L : Int)) <| jchk (0 ≤ (w32 (i + 2)) ∧ (w32 (i + 2)) < (L : Int)) <| jb1 (m_dig N ((jsx xs ((w32 (i + 1))))) ((jsx xs ((w32 (i + 2))))) Y) fun r89 M90 => (if r85 = r89 then h ((w32 (i + 6)), M86, M90) else some 0)
def law_C12 (N L : Nat) (xs : Nat → Int32) (h : Int × jMem × jMem → Option Int) (i : Int) (X Y : jMem) : Option Int := jchk (0 ≤ (w32 (i + 1)) ∧ (w32 (i + 1)) < (L : Int)) <| jb1 (x_birth N ((jsx xs ((w32 (i + 1))))) X) fun r93 M94 => jchk (0 ≤ (w32 (i + 1)) ∧ (w32 (i + 1)) < (L : Int)) <| jb1 (m_birth N ((jsx xs ((w32 (i + 1))))) Y) fun r96 M97 => (if r93 = r96 then h ((w32 (i + 6)), M94, M97) else some 0)
def law_C13 (N L : Nat) (xs : Nat → Int32) (h : Int × jMem × jMem → Option Int) (i : Int) (X Y : jMem) : Option Int := jb1 (x_undo N  X) fun r99 M100 => jb1 (m_undo N  Y) fun r101 M102 => (if r99 = r101 then h ((w32 (i + 6)), M100, M102) else some 0)
def law_C14 (N L : Nat) (xs : Nat → Int32) (h : Int × jMem × jMem → Option Int) (i : Int) (X Y : jMem) : Option Int := jchk (0 ≤ (w32 (i + 1)) ∧ (w32 (i + 1)) < (L : Int)) <| jb1 (x_fewest N ((jsx xs ((w32 (i + 1))))) X) fun r105 M106 => jchk (0 ≤ (w32 (i + 1)) ∧ (w32 (i + 1)) < (L : Int)) <| jb1 (m_fewest N ((jsx xs ((w32 (i + 1))))) Y) fun r108 M109 => (if r105 = r108 then h ((w32 (i + 6)), M106, M109) else some 0)
def law_C15 (N L : Nat) (xs : Nat → Int32) (h : Int × jMem × jMem → Option Int) (i : Int) (X Y : jMem) : Option Int := jchk (0 ≤ (w32 (i + 1)) ∧ (w32 (i + 1)) < (L : Int)) <| jchk (0 ≤ (w32 (i + 2)) ∧ (w32 (i + 2)) < (L : Int)) <| jchk (0 ≤ (w32 (i + 3)) ∧ (w32 (i + 3)) < (L : Int)) <| jb1 (x_step N ((jsx xs ((w32 (i + 1))))) ((jsx xs ((w32 (i + 2))))) ((jsx xs ((w32 (i + 3))))) X) fun r114 M115 => jchk (0 ≤ (w32 (i + 1)) ∧ (w32 (i + 1)) < (L : Int)) <| jchk (0 ≤ (w32 (i + 2)) ∧ (w32 (i + 2)) < (L : Int)) <| jchk (0 ≤ (w32 (i + 3)) ∧ (w32 (i + 3)) < (L : Int)) <| jb1 (m_step N ((jsx xs ((w32 (i + 1))))) ((jsx xs ((w32 (i + 2))))) ((jsx xs ((w32 (i + 3))))) Y) fun r119 M120 => (if r114 = r119 then h ((w32 (i + 6)), M115, M120) else some 0)
def law_C16 (N L : Nat) (xs : Nat → Int32) (h : Int × jMem × jMem → Option Int) (i : Int) (X Y : jMem) : Option Int := jchk (0 ≤ (w32 (i + 1)) ∧ (w32 (i + 1)) < (L : Int)) <| jb1 (x_lies N ((jsx xs ((w32 (i + 1))))) X) fun r123 M124 => jchk (0 ≤ (w32 (i + 1)) ∧ (w32 (i + 1)) < (L : Int)) <| jb1 (m_lies N ((jsx xs ((w32 (i + 1))))) Y) fun r126 M127 => (if r123 = r126 then h ((w32 (i + 6)), M124, M127) else some 0)
def law_C17 (N L : Nat) (xs : Nat → Int32) (h : Int × jMem × jMem → Option Int) (i : Int) (X Y : jMem) : Option Int := jchk (0 ≤ (w32 (i + 1)) ∧ (w32 (i + 1)) < (L : Int)) <| jb1 (x_farthest N ((jsx xs ((w32 (i + 1))))) X) fun r130 M131 => jchk (0 ≤ (w32 (i + 1)) ∧ (w32 (i + 1)) < (L : Int)) <| jb1 (m_farthest N ((jsx xs ((w32 (i + 1))))) Y) fun r133 M134 => (if r130 = r133 then h ((w32 (i + 6)), M131, M134) else some 0)
def law_C18 (N L : Nat) (xs : Nat → Int32) (h : Int × jMem × jMem → Option Int) (i : Int) (X Y : jMem) : Option Int := jchk (0 ≤ (w32 (i + 1)) ∧ (w32 (i + 1)) < (L : Int)) <| jchk (0 ≤ (w32 (i + 2)) ∧ (w32 (i + 2)) < (L : Int)) <| (x_comes N ((jsx xs ((w32 (i + 1))))) ((jsx xs ((w32 (i + 2))))) X).bind fun r138 => jchk (0 ≤ (w32 (i + 1)) ∧ (w32 (i + 1)) < (L : Int)) <| jchk (0 ≤ (w32 (i + 2)) ∧ (w32 (i + 2)) < (L : Int)) <| (m_comes N ((jsx xs ((w32 (i + 1))))) ((jsx xs ((w32 (i + 2))))) Y).bind fun r141 => (if r138 = r141 then h ((w32 (i + 6)), X, Y) else some 0)
def law_C19 (N L : Nat) (xs : Nat → Int32) (h : Int × jMem × jMem → Option Int) (i : Int) (X Y : jMem) : Option Int := jchk (0 ≤ (w32 (i + 1)) ∧ (w32 (i + 1)) < (L : Int)) <| (x_rings N ((jsx xs ((w32 (i + 1))))) X).bind fun r144 => jchk (0 ≤ (w32 (i + 1)) ∧ (w32 (i + 1)) < (L : Int)) <| (m_rings N ((jsx xs ((w32 (i + 1))))) Y).bind fun r146 => (if r144 = r146 then h ((w32 (i + 6)), X, Y) else some 0)
def law_C20 (N L : Nat) (xs : Nat → Int32) (h : Int × jMem × jMem → Option Int) (i : Int) (X Y : jMem) : Option Int := jchk (0 ≤ (w32 (i + 1)) ∧ (w32 (i + 1)) < (L : Int)) <| jchk (0 ≤ (w32 (i + 2)) ∧ (w32 (i + 2)) < (L : Int)) <| jchk (0 ≤ (w32 (i + 3)) ∧ (w32 (i + 3)) < (L : Int)) <| jb1 (x_ahead N ((jsx xs ((w32 (i + 1))))) ((jsx xs ((w32 (i + 2))))) ((jsx xs ((w32 (i + 3))))) X) fun r151 M152 => jchk (0 ≤ (w32 (i + 1)) ∧ (w32 (i + 1)) < (L : Int)) <| jchk (0 ≤ (w32 (i + 2)) ∧ (w32 (i + 2)) < (L : Int)) <| jchk (0 ≤ (w32 (i + 3)) ∧ (w32 (i + 3)) < (L : Int)) <| jb1 (m_ahead N ((jsx xs ((w32 (i + 1))))) ((jsx xs ((w32 (i + 2))))) ((jsx xs ((w32 (i + 3))))) Y) fun r156 M157 => (if r151 = r156 then h ((w32 (i + 6)), M152, M157) else some 0)
def law_C21 (N L : Nat) (xs : Nat → Int32) (h : Int × jMem × jMem → Option Int) (i : Int) (X Y : jMem) : Option Int := jchk (0 ≤ (w32 (i + 1)) ∧ (w32 (i + 1)) < (L : Int)) <| jb1 (x_dry N ((jsx xs ((w32 (i + 1))))) X) fun r160 M161 => jchk (0 ≤ (w32 (i + 1)) ∧ (w32 (i + 1)) < (L : Int)) <| jb1 (m_dry N ((jsx xs ((w32 (i + 1))))) Y) fun r163 M164 => (if r160 = r163 then h ((w32 (i + 6)), M161, M164) else some 0)
def law_C22 (N L : Nat) (xs : Nat → Int32) (h : Int × jMem × jMem → Option Int) (i : Int) (X Y : jMem) : Option Int := jb1 (x_home N  X) fun r166 M167 => jb1 (m_home N  Y) fun r168 M169 => (if r166 = r168 then h ((w32 (i + 6)), M167, M169) else some 0)
def law_C23 (N L : Nat) (xs : Nat → Int32) (h : Int × jMem × jMem → Option Int) (i : Int) (X Y : jMem) : Option Int := jchk (0 ≤ (w32 (i + 1)) ∧ (w32 (i + 1)) < (L : Int)) <| jchk (0 ≤ (w32 (i + 2)) ∧ (w32 (i + 2)) < (L : Int)) <| jb1 (x_heir N ((jsx xs ((w32 (i + 1))))) ((jsx xs ((w32 (i + 2))))) X) fun r173 M174 => jchk (0 ≤ (w32 (i + 1)) ∧ (w32 (i + 1)) < (L : Int)) <| jchk (0 ≤ (w32 (i + 2)) ∧ (w32 (i + 2)) < (L : Int)) <| jb1 (m_heir N ((jsx xs ((w32 (i + 1))))) ((jsx xs ((w32 (i + 2))))) Y) fun r177 M178 => (if r173 = r177 then h ((w32 (i + 6)), M174, M178) else some 0)
def law_C24 (N L : Nat) (xs : Nat → Int32) (h : Int × jMem × jMem → Option Int) (i : Int) (X Y : jMem) : Option Int := jchk (0 ≤ (w32 (i + 1)) ∧ (w32 (i + 1)) < (L : Int)) <| jchk (0 ≤ (w32 (i + 2)) ∧ (w32 (i + 2)) < (L : Int)) <| jb1 (x_depths N ((jsx xs ((w32 (i + 1))))) ((jsx xs ((w32 (i + 2))))) X) fun r182 M183 => jchk (0 ≤ (w32 (i + 1)) ∧ (w32 (i + 1)) < (L : Int)) <| jchk (0 ≤ (w32 (i + 2)) ∧ (w32 (i + 2)) < (L : Int)) <| jb1 (m_depths N ((jsx xs ((w32 (i + 1))))) ((jsx xs ((w32 (i + 2))))) Y) fun r186 M187 => (if r182 = r186 then h ((w32 (i + 6)), M183, M187) else some 0)
def law_C25 (N L : Nat) (xs : Nat → Int32) (h : Int × jMem × jMem → Option Int) (i : Int) (X Y : jMem) : Option Int := jchk (0 ≤ (w32 (i + 1)) ∧ (w32 (i + 1)) < (L : Int)) <| jchk (0 ≤ (w32 (i + 2)) ∧ (w32 (i + 2)) < (L : Int)) <| jb1 (x_tastes N ((jsx xs ((w32 (i + 1))))) ((jsx xs ((w32 (i + 2))))) X) fun r191 M192 => jchk (0 ≤ (w32 (i + 1)) ∧ (w32 (i + 1)) < (L : Int)) <| jchk (0 ≤ (w32 (i + 2)) ∧ (w32 (i + 2)) < (L : Int)) <| jb1 (m_tastes N ((jsx xs ((w32 (i + 1))))) ((jsx xs ((w32 (i + 2))))) Y) fun r195 M196 => (if r191 = r195 then h ((w32 (i + 6)), M192, M196) else some 0)
def law_C26 (N L : Nat) (xs : Nat → Int32) (h : Int × jMem × jMem → Option Int) (i : Int) (X Y : jMem) : Option Int := jchk (0 ≤ (w32 (i + 1)) ∧ (w32 (i + 1)) < (L : Int)) <| jchk (0 ≤ (w32 (i + 2)) ∧ (w32 (i + 2)) < (L : Int)) <| jchk (0 ≤ (w32 (i + 3)) ∧ (w32 (i + 3)) < (L : Int)) <| jchk (0 ≤ (w32 (i + 4)) ∧ (w32 (i + 4)) < (L : Int)) <| jb1 (x_rests N ((jsx xs ((w32 (i + 1))))) ((jsx xs ((w32 (i + 2))))) ((jsx xs ((w32 (i + 3))))) ((jsx xs ((w32 (i + 4))))) X) fun r202 M203 => jchk (0 ≤ (w32 (i + 1)) ∧ (w32 (i + 1)) < (L : Int)) <| jchk (0 ≤ (w32 (i + 2)) ∧ (w32 (i + 2)) < (L : Int)) <| jchk (0 ≤ (w32 (i + 3)) ∧ (w32 (i + 3)) < (L : Int)) <| jchk (0 ≤ (w32 (i + 4)) ∧ (w32 (i + 4)) < (L : Int)) <| jb1 (m_rests N ((jsx xs ((w32 (i + 1))))) ((jsx xs ((w32 (i + 2))))) ((jsx xs ((w32 (i + 3))))) ((jsx xs ((w32 (i + 4))))) Y) fun r208 M209 => (if r202 = r208 then h ((w32 (i + 6)), M203, M209) else some 0)
def law_C27 (N L : Nat) (xs : Nat → Int32) (h : Int × jMem × jMem → Option Int) (i : Int) (X Y : jMem) : Option Int := jchk (0 ≤ (w32 (i + 1)) ∧ (w32 (i + 1)) < (L : Int)) <| jchk (0 ≤ (w32 (i + 2)) ∧ (w32 (i + 2)) < (L : Int)) <| (x_pence N ((jsx xs ((w32 (i + 1))))) ((jsx xs ((w32 (i + 2))))) X).bind fun r213 => jchk (0 ≤ (w32 (i + 1)) ∧ (w32 (i + 1)) < (L : Int)) <| jchk (0 ≤ (w32 (i + 2)) ∧ (w32 (i + 2)) < (L : Int)) <| (m_pence N ((jsx xs ((w32 (i + 1))))) ((jsx xs ((w32 (i + 2))))) Y).bind fun r216 => (if r213 = r216 then h ((w32 (i + 6)), X, Y) else some 0)
def law_C28 (N L : Nat) (xs : Nat → Int32) (h : Int × jMem × jMem → Option Int) (i : Int) (X Y : jMem) : Option Int := jchk (0 ≤ (w32 (i + 1)) ∧ (w32 (i + 1)) < (L : Int)) <| jchk (0 ≤ (w32 (i + 2)) ∧ (w32 (i + 2)) < (L : Int)) <| jchk (0 ≤ (w32 (i + 3)) ∧ (w32 (i + 3)) < (L : Int)) <| jb1 (x_note N ((jsx xs ((w32 (i + 1))))) ((jsx xs ((w32 (i + 2))))) ((jsx xs ((w32 (i + 3))))) X) fun r221 M222 => jchk (0 ≤ (w32 (i + 1)) ∧ (w32 (i + 1)) < (L : Int)) <| jchk (0 ≤ (w32 (i + 2)) ∧ (w32 (i + 2)) < (L : Int)) <| jchk (0 ≤ (w32 (i + 3)) ∧ (w32 (i + 3)) < (L : Int)) <| jb1 (m_note N ((jsx xs ((w32 (i + 1))))) ((jsx xs ((w32 (i + 2))))) ((jsx xs ((w32 (i + 3))))) Y) fun r226 M227 => (if r221 = r226 then h ((w32 (i + 6)), M222, M227) else some 0)
def law_C29 (N L : Nat) (xs : Nat → Int32) (h : Int × jMem × jMem → Option Int) (i : Int) (X Y : jMem) : Option Int := jchk (0 ≤ (w32 (i + 1)) ∧ (w32 (i + 1)) < (L : Int)) <| jb1 (x_ruled N ((jsx xs ((w32 (i + 1))))) X) fun r230 M231 => jchk (0 ≤ (w32 (i + 1)) ∧ (w32 (i + 1)) < (L : Int)) <| jb1 (m_ruled N ((jsx xs ((w32 (i + 1))))) Y) fun r233 M234 => (if r230 = r233 then h ((w32 (i + 6)), M231, M234) else some 0)
def law_C30 (N L : Nat) (xs : Nat → Int32) (h : Int × jMem × jMem → Option Int) (i : Int) (X Y : jMem) : Option Int := jchk (0 ≤ (w32 (i + 1)) ∧ (w32 (i + 1)) < (L : Int)) <| jchk (0 ≤ (w32 (i + 2)) ∧ (w32 (i + 2)) < (L : Int)) <| jb1 (x_look N ((jsx xs ((w32 (i + 1))))) ((jsx xs ((w32 (i + 2))))) X) fun r238 M239 => jchk (0 ≤ (w32 (i + 1)) ∧ (w32 (i + 1)) < (L : Int)) <| jchk (0 ≤ (w32 (i + 2)) ∧ (w32 (i + 2)) < (L : Int)) <| jb1 (m_look N ((jsx xs ((w32 (i + 1))))) ((jsx xs ((w32 (i + 2))))) Y) fun r242 M243 => (if r238 = r242 then h ((w32 (i + 6)), M239, M243) else some 0)
def law_C31 (N L : Nat) (xs : Nat → Int32) (h : Int × jMem × jMem → Option Int) (i : Int) (X Y : jMem) : Option Int := jchk (0 ≤ (w32 (i + 1)) ∧ (w32 (i + 1)) < (L : Int)) <| jb1 (x_seed N ((jsx xs ((w32 (i + 1))))) X) fun r246 M247 => jchk (0 ≤ (w32 (i + 1)) ∧ (w32 (i + 1)) < (L : Int)) <| jb1 (m_seed N ((jsx xs ((w32 (i + 1))))) Y) fun r249 M250 => (if r246 = r249 then h ((w32 (i + 6)), M247, M250) else some 0)
def law_C32 (N L : Nat) (xs : Nat → Int32) (h : Int × jMem × jMem → Option Int) (i : Int) (X Y : jMem) : Option Int := jchk (0 ≤ (w32 (i + 1)) ∧ (w32 (i + 1)) < (L : Int)) <| jchk (0 ≤ (w32 (i + 2)) ∧ (w32 (i + 2)) < (L : Int)) <| jchk (0 ≤ (w32 (i + 3)) ∧ (w32 (i + 3)) < (L : Int)) <| jchk (0 ≤ (w32 (i + 4)) ∧ (w32 (i + 4)) < (L : Int)) <| jb1 (x_droughts N ((jsx xs ((w32 (i + 1))))) ((jsx xs ((w32 (i + 2))))) ((jsx xs ((w32 (i + 3))))) ((jsx xs ((w32 (i + 4))))) X) fun r256 M257 => jchk (0 ≤ (w32 (i + 1)) ∧ (w32 (i + 1)) < (L : Int)) <| jchk (0 ≤ (w32 (i + 2)) ∧ (w32 (i + 2)) < (L : Int)) <| jchk (0 ≤ (w32 (i + 3)) ∧ (w32 (i + 3)) < (L : Int)) <| jchk (0 ≤ (w32 (i + 4)) ∧ (w32 (i + 4)) < (L : Int)) <| jb1 (m_droughts N ((jsx xs ((w32 (i + 1))))) ((jsx xs ((w32 (i + 2))))) ((jsx xs ((w32 (i + 3))))) ((jsx xs ((w32 (i + 4))))) Y) fun r262 M263 => (if r256 = r262 then h ((w32 (i + 6)), M257, M263) else some 0)
def law_C33 (N L : Nat) (xs : Nat → Int32) (h : Int × jMem × jMem → Option Int) (i : Int) (X Y : jMem) : Option Int := jchk (0 ≤ (w32 (i + 1)) ∧ (w32 (i + 1)) < (L : Int)) <| (x_count N ((jsx xs ((w32 (i + 1))))) X).bind fun r266 => jchk (0 ≤ (w32 (i + 1)) ∧ (w32 (i + 1)) < (L : Int)) <| (m_count N ((jsx xs ((w32 (i + 1))))) Y).bind fun r268 => (if r266 = r268 then h ((w32 (i + 6)), X, Y) else some 0)
def law_C34 (N L : Nat) (xs : Nat → Int32) (h : Int × jMem × jMem → Option Int) (i : Int) (X Y : jMem) : Option Int := jchk (0 ≤ (w32 (i + 1)) ∧ (w32 (i + 1)) < (L : Int)) <| jb1 (x_image N ((jsx xs ((w32 (i + 1))))) X) fun r271 M272 => jchk (0 ≤ (w32 (i + 1)) ∧ (w32 (i + 1)) < (L : Int)) <| jb1 (m_image N ((jsx xs ((w32 (i + 1))))) Y) fun r274 M275 => (if r271 = r274 then h ((w32 (i + 6)), M272, M275) else some 0)
def law_C35 (N L : Nat) (xs : Nat → Int32) (h : Int × jMem × jMem → Option Int) (i : Int) (X Y : jMem) : Option Int := jchk (0 ≤ (w32 (i + 1)) ∧ (w32 (i + 1)) < (L : Int)) <| jb1 (x_back N ((jsx xs ((w32 (i + 1))))) X) fun r278 M279 => jchk (0 ≤ (w32 (i + 1)) ∧ (w32 (i + 1)) < (L : Int)) <| jb1 (m_back N ((jsx xs ((w32 (i + 1))))) Y) fun r281 M282 => (if r278 = r281 then h ((w32 (i + 6)), M279, M282) else some 0)
def law_L (N L : Nat) (xs : Nat → Int32) (h : Int × jMem × jMem → Option Int) : Int × jMem × jMem → Option Int
  | (i, X, Y) => (if (w32 ((L : Int) - 6)) < i then some 1 else jchk (0 ≤ i ∧ i < (L : Int)) <| jlt ((jand ((jsx xs i)) 63)) fun sw2 => (if sw2 = 0 then law_C0 N L xs h i X Y else (if sw2 = 1 then law_C1 N L xs h i X Y else (if sw2 = 2 then law_C2 N L xs h i X Y else (if sw2 = 3 then law_C3 N L xs h i X Y else (if sw2 = 4 then law_C4 N L xs h i X Y else (if sw2 = 5 then law_C5 N L xs h i X Y else (if sw2 = 6 then law_C6 N L xs h i X Y else (if sw2 = 7 then law_C7 N L xs h i X Y else (if sw2 = 8 then law_C8 N L xs h i X Y else (if sw2 = 9 then law_C9 N L xs h i X Y else (if sw2 = 10 then law_C10 N L xs h i X Y else (if sw2 = 11 then law_C11 N L xs h i X Y else (if sw2 = 12 then law_C12 N L xs h i X Y else (if sw2 = 13 then law_C13 N L xs h i X Y else (if sw2 = 14 then law_C14 N L xs h i X Y else (if sw2 = 15 then law_C15 N L xs h i X Y else (if sw2 = 16 then law_C16 N L xs h i X Y else (if sw2 = 17 then law_C17 N L xs h i X Y else (if sw2 = 18 then law_C18 N L xs h i X Y else (if sw2 = 19 then law_C19 N L xs h i X Y else (if sw2 = 20 then law_C20 N L xs h i X Y else (if sw2 = 21 then law_C21 N L xs h i X Y else (if sw2 = 22 then law_C22 N L xs h i X Y else (if sw2 = 23 then law_C23 N L xs h i X Y else (if sw2 = 24 then law_C24 N L xs h i X Y else (if sw2 = 25 then law_C25 N L xs h i X Y else (if sw2 = 26 then law_C26 N L xs h i X Y else (if sw2 = 27 then law_C27 N L xs h i X Y else (if sw2 = 28 then law_C28 N L xs h i X Y else (if sw2 = 29 then law_C29 N L xs h i X Y else (if sw2 = 30 then law_C30 N L xs h i X Y else (if sw2 = 31 then law_C31 N L xs h i X Y else (if sw2 = 32 then law_C32 N L xs h i X Y else (if sw2 = 33 then law_C33 N L xs h i X Y else (if sw2 = 34 then law_C34 N L xs h i X Y else (if sw2 = 35 then law_C35 N L xs h i X Y else h ((w32 (i + 6)), X, Y))))))))))))))))))))))))))))))))))))))
def law_f (N L : Nat) (xs : Nat → Int32) (X Y : jMem) : Option Int := jfix N (law_L N L xs) (0, X, Y)
theorem law_walk {l : Launch} {gX gM : jG} {b0 L : Nat} {xs : Nat → Int32} {K : Nat → jL → List jV → jMem → jMem → Int → Prop} (hR : jR3 l gX gM b0 L xs K) (N : Nat) (X Y : jMem) : jZ3 K 18 [(0, 4, (b0 : Int)), (1, 4, (gX.2.2 : Int)), (2, 4, (gM.2.2 : Int)), (3, 0, 0)] [] X Y (law_f N L xs X Y) := by
  unfold law_f
  refine v_fix (σ := Int × jMem × jMem) (lv := fun z => [(0, 4, (b0 : Int)), (1, 4, (gX.2.2 : Int)), (2, 4, (gM.2.2 : Int)), (3, 0, z.1)]) (X := fun z => z.2.1) (Y := fun z => z.2.2) (fun h hh => ?_) N (0, X, Y)
  rintro ⟨i, X, Y⟩
  show jZ3 K 18 [(0, 4, (b0 : Int)), (1, 4, (gX.2.2 : Int)), (2, 4, (gM.2.2 : Int)), (3, 0, i)] [] X Y _
  unfold law_L
  refine v_iload_n (pc := 18) hR 3 dL_law_18 rfl rfl ?_
  refine v_aload_n (pc := 19) hR 0 dL_law_19 rfl rfl ?_
  refine v_slen (pc := 20) hR dL_law_20 ?_
  refine v_bipush (pc := 21) hR dL_law_21 rfl ?_
  refine v_isub (pc := 23) hR dL_law_23 ?_
  refine v_icmpgt (pc := 24) (tgt := 1236) hR dL_law_24 (by decide) ?_ ?_
  · refine v_iconst (pc := 1236) hR dL_law_1236 rfl ?_
    exact v_ret1 (pc := 1237) hR dL_law_1237
  · refine v_aload_n (pc := 27) hR 0 dL_law_27 rfl rfl ?_
    refine v_iload_n (pc := 28) hR 3 dL_law_28 rfl rfl ?_
    refine v_chk (fun hc1 => ?_)
    refine v_sld (pc := 29) hR hc1.1 hc1.2 dL_law_29 ?_
    refine v_bipush (pc := 30) hR dL_law_30 rfl ?_
    refine v_iand (pc := 32) hR dL_law_32 ?_
    refine v_let1 (fun sw2 => ?_)
    refine v_tsw (pc := 33) (tgt := 192) (j := 0) (y := 0) hR dL_law_33 rfl rfl (by decide) (by decide) ?_ (fun hs3 => ?_)
    · unfold law_C0
      refine v_aload_n (pc := 192) hR 1 dL_law_192 rfl rfl ?_
      refine v_aload_n (pc := 193) hR 0 dL_law_193 rfl rfl ?_
      refine v_iload_n (pc := 194) hR 3 dL_law_194 rfl rfl ?_
      refine v_iconst (pc := 195) hR dL_law_195 rfl ?_
      refine v_iadd (pc := 196) hR dL_law_196 ?_
      refine v_chk (fun hc4 => ?_)
      refine v_sld (pc := 197) hR hc4.1 hc4.2 dL_law_197 ?_
      refine v_aload_n (pc := 198) hR 0 dL_law_198 rfl rfl ?_
      refine v_iload_n (pc := 199) hR 3 dL_law_199 rfl rfl ?_
      refine v_iconst (pc := 200) hR dL_law_200 rfl ?_
      refine v_iadd (pc := 201) hR dL_law_201 ?_
      refine v_chk (fun hc5 => ?_)
      refine v_sld (pc := 202) hR hc5.1 hc5.2 dL_law_202 ?_
      refine v_aload_n (pc := 203) hR 0 dL_law_203 rfl rfl ?_
      refine v_iload_n (pc := 204) hR 3 dL_law_204 rfl rfl ?_
      refine v_iconst (pc := 205) hR dL_law_205 rfl ?_
      refine v_iadd (pc := 206) hR dL_law_206 ?_
      refine v_chk (fun hc6 => ?_)
      refine v_sld (pc := 207) hR hc6.1 hc6.2 dL_law_207 ?_
      refine v_aload_n (pc := 208) hR 0 dL_law_208 rfl rfl ?_
      refine v_iload_n (pc := 209) hR 3 dL_law_209 rfl rfl ?_
      refine v_iconst (pc := 210) hR dL_law_210 rfl ?_
      refine v_iadd (pc := 211) hR dL_law_211 ?_
      refine v_chk (fun hc7 => ?_)
      refine v_sld (pc := 212) hR hc7.1 hc7.2 dL_law_212 ?_
      refine v_aload_n (pc := 213) hR 0 dL_law_213 rfl rfl ?_
      refine v_iload_n (pc := 214) hR 3 dL_law_214 rfl rfl ?_
      refine v_iconst (pc := 215) hR dL_law_215 rfl ?_
      refine v_iadd (pc := 216) hR dL_law_216 ?_
      refine v_chk (fun hc8 => ?_)
      refine v_sld (pc := 217) hR hc8.1 hc8.2 dL_law_217 ?_
      refine v_callx1 (pc := 218) hR (As := [(0, (jsx xs ((w32 (i + 1))))), (0, (jsx xs ((w32 (i + 2))))), (0, (jsx xs ((w32 (i + 3))))), (0, (jsx xs ((w32 (i + 4))))), (0, (jsx xs ((w32 (i + 5)))))]) (st := []) jm_X11_feed jl_RL_13 (c_x_feed N ((jsx xs ((w32 (i + 1))))) ((jsx xs ((w32 (i + 2))))) ((jsx xs ((w32 (i + 3))))) ((jsx xs ((w32 (i + 4))))) ((jsx xs ((w32 (i + 5))))) X) (fun v hv => by simp only [List.mem_cons, List.not_mem_nil, or_false] at hv; rcases hv with rfl | rfl | rfl | rfl | rfl <;> rfl) rfl (by decide) (by decide) rfl (Nat.le_of_ble_eq_true rfl) dL_law_218 (fun r9 M10 => ?_)
      refine v_aload_n (pc := 221) hR 2 dL_law_221 rfl rfl ?_
      refine v_aload_n (pc := 222) hR 0 dL_law_222 rfl rfl ?_
      refine v_iload_n (pc := 223) hR 3 dL_law_223 rfl rfl ?_
      refine v_iconst (pc := 224) hR dL_law_224 rfl ?_
      refine v_iadd (pc := 225) hR dL_law_225 ?_
      refine v_chk (fun hc11 => ?_)
      refine v_sld (pc := 226) hR hc11.1 hc11.2 dL_law_226 ?_
      refine v_aload_n (pc := 227) hR 0 dL_law_227 rfl rfl ?_
      refine v_iload_n (pc := 228) hR 3 dL_law_228 rfl rfl ?_
      refine v_iconst (pc := 229) hR dL_law_229 rfl ?_
      refine v_iadd (pc := 230) hR dL_law_230 ?_
      refine v_chk (fun hc12 => ?_)
      refine v_sld (pc := 231) hR hc12.1 hc12.2 dL_law_231 ?_
      refine v_aload_n (pc := 232) hR 0 dL_law_232 rfl rfl ?_
      refine v_iload_n (pc := 233) hR 3 dL_law_233 rfl rfl ?_
      refine v_iconst (pc := 234) hR dL_law_234 rfl ?_
      refine v_iadd (pc := 235) hR dL_law_235 ?_
      refine v_chk (fun hc13 => ?_)
      refine v_sld (pc := 236) hR hc13.1 hc13.2 dL_law_236 ?_
      refine v_aload_n (pc := 237) hR 0 dL_law_237 rfl rfl ?_
      refine v_iload_n (pc := 238) hR 3 dL_law_238 rfl rfl ?_
      refine v_iconst (pc := 239) hR dL_law_239 rfl ?_
      refine v_iadd (pc := 240) hR dL_law_240 ?_
      refine v_chk (fun hc14 => ?_)
      refine v_sld (pc := 241) hR hc14.1 hc14.2 dL_law_241 ?_
      refine v_aload_n (pc := 242) hR 0 dL_law_242 rfl rfl ?_
      refine v_iload_n (pc := 243) hR 3 dL_law_243 rfl rfl ?_
      refine v_iconst (pc := 244) hR dL_law_244 rfl ?_
      refine v_iadd (pc := 245) hR dL_law_245 ?_
      refine v_chk (fun hc15 => ?_)
      refine v_sld (pc := 246) hR hc15.1 hc15.2 dL_law_246 ?_
      refine v_callm1 (pc := 247) hR (As := [(0, (jsx xs ((w32 (i + 1))))), (0, (jsx xs ((w32 (i + 2))))), (0, (jsx xs ((w32 (i + 3))))), (0, (jsx xs ((w32 (i + 4))))), (0, (jsx xs ((w32 (i + 5)))))]) (st := [(0, r9)]) jm_X12_feed jl_RL_17 (c_m_feed N ((jsx xs ((w32 (i + 1))))) ((jsx xs ((w32 (i + 2))))) ((jsx xs ((w32 (i + 3))))) ((jsx xs ((w32 (i + 4))))) ((jsx xs ((w32 (i + 5))))) Y) (fun v hv => by simp only [List.mem_cons, List.not_mem_nil, or_false] at hv; rcases hv with rfl | rfl | rfl | rfl | rfl <;> rfl) rfl (by decide) (by decide) rfl (Nat.le_of_ble_eq_true rfl) dL_law_247 (fun r16 M17 => ?_)
      refine v_icmpeq (pc := 250) (tgt := 1230) hR dL_law_250 (by decide) ?_ ?_
      · refine v_iinc (pc := 1230) hR (j := 3) (lv' := [(3, 0, (w32 (i + 6))), (0, 4, (b0 : Int)), (1, 4, (gX.2.2 : Int)), (2, 4, (gM.2.2 : Int))]) dL_law_1230 rfl (by decide) rfl ?_
        refine v_goto (pc := 1233) (tgt := 18) hR dL_law_1233 (by decide) ?_
        refine v_pick (pc := 18) (lv' := [(0, 4, (b0 : Int)), (1, 4, (gX.2.2 : Int)), (2, 4, (gM.2.2 : Int)), (3, 0, (w32 (i + 6)))]) hR [1, 2, 3, 0] rfl ?_
        exact hh ((w32 (i + 6)), M10, M17)
      · exact v_iconst (pc := 253) hR dL_law_253 rfl (v_ret0 hR)
    refine v_tsw (pc := 33) (tgt := 255) (j := 1) (y := 1) hR dL_law_33 rfl rfl (by decide) (by decide) ?_ (fun hs18 => ?_)
    · unfold law_C1
      refine v_aload_n (pc := 255) hR 1 dL_law_255 rfl rfl ?_
      refine v_aload_n (pc := 256) hR 0 dL_law_256 rfl rfl ?_
      refine v_iload_n (pc := 257) hR 3 dL_law_257 rfl rfl ?_
      refine v_iconst (pc := 258) hR dL_law_258 rfl ?_
      refine v_iadd (pc := 259) hR dL_law_259 ?_
      refine v_chk (fun hc19 => ?_)
      refine v_sld (pc := 260) hR hc19.1 hc19.2 dL_law_260 ?_
      refine v_callx1 (pc := 261) hR (As := [(0, (jsx xs ((w32 (i + 1)))))]) (st := []) jm_X11_end jl_RL_18 (c_x_end N ((jsx xs ((w32 (i + 1))))) X) (fun v hv => by simp only [List.mem_cons, List.not_mem_nil, or_false] at hv; rcases hv with rfl <;> rfl) rfl (by decide) (by decide) rfl (Nat.le_of_ble_eq_true rfl) dL_law_261 (fun r20 M21 => ?_)
      refine v_aload_n (pc := 264) hR 2 dL_law_264 rfl rfl ?_
      refine v_aload_n (pc := 265) hR 0 dL_law_265 rfl rfl ?_
      refine v_iload_n (pc := 266) hR 3 dL_law_266 rfl rfl ?_
      refine v_iconst (pc := 267) hR dL_law_267 rfl ?_
      refine v_iadd (pc := 268) hR dL_law_268 ?_
      refine v_chk (fun hc22 => ?_)
      refine v_sld (pc := 269) hR hc22.1 hc22.2 dL_law_269 ?_
      refine v_callm1 (pc := 270) hR (As := [(0, (jsx xs ((w32 (i + 1)))))]) (st := [(0, r20)]) jm_X12_end jl_RL_22 (c_m_end N ((jsx xs ((w32 (i + 1))))) Y) (fun v hv => by simp only [List.mem_cons, List.not_mem_nil, or_false] at hv; rcases hv with rfl <;> rfl) rfl (by decide) (by decide) rfl (Nat.le_of_ble_eq_true rfl) dL_law_270 (fun r23 M24 => ?_)
      refine v_icmpeq (pc := 273) (tgt := 1230) hR dL_law_273 (by decide) ?_ ?_
      · refine v_iinc (pc := 1230) hR (j := 3) (lv' := [(3, 0, (w32 (i + 6))), (0, 4, (b0 : Int)), (1, 4, (gX.2.2 : Int)), (2, 4, (gM.2.2 : Int))]) dL_law_1230 rfl (by decide) rfl ?_
        refine v_goto (pc := 1233) (tgt := 18) hR dL_law_1233 (by decide) ?_
        refine v_pick (pc := 18) (lv' := [(0, 4, (b0 : Int)), (1, 4, (gX.2.2 : Int)), (2, 4, (gM.2.2 : Int)), (3, 0, (w32 (i + 6)))]) hR [1, 2, 3, 0] rfl ?_
        exact hh ((w32 (i + 6)), M21, M24)
      · exact v_iconst (pc := 276) hR dL_law_276 rfl (v_ret0 hR)
    refine v_tsw (pc := 33) (tgt := 278) (j := 2) (y := 2) hR dL_law_33 rfl rfl (by decide) (by decide) ?_ (fun hs25 => ?_)
    · unfold law_C2
      refine v_aload_n (pc := 278) hR 1 dL_law_278 rfl rfl ?_
      refine v_callx1 (pc := 279) hR (As := []) (st := []) jm_X11_parish jl_RL_23 (c_x_parish N  X) (fun v hv => by cases hv) rfl (by decide) (by decide) rfl (Nat.le_of_ble_eq_true rfl) dL_law_279 (fun r26 M27 => ?_)
      refine v_aload_n (pc := 282) hR 2 dL_law_282 rfl rfl ?_
      refine v_callm1 (pc := 283) hR (As := []) (st := [(0, r26)]) jm_X12_parish jl_RL_27 (c_m_parish N  Y) (fun v hv => by cases hv) rfl (by decide) (by decide) rfl (Nat.le_of_ble_eq_true rfl) dL_law_283 (fun r28 M29 => ?_)
      refine v_icmpeq (pc := 286) (tgt := 1230) hR dL_law_286 (by decide) ?_ ?_
      · refine v_iinc (pc := 1230) hR (j := 3) (lv' := [(3, 0, (w32 (i + 6))), (0, 4, (b0 : Int)), (1, 4, (gX.2.2 : Int)), (2, 4, (gM.2.2 : Int))]) dL_law_1230 rfl (by decide) rfl ?_
        refine v_goto (pc := 1233) (tgt := 18) hR dL_law_1233 (by decide) ?_
        refine v_pick (pc := 18) (lv' := [(0, 4, (b0 : Int)), (1, 4, (gX.2.2 : Int)), (2, 4, (gM.2.2 : Int)), (3, 0, (w32 (i + 6)))]) hR [1, 2, 3, 0] rfl ?_
        exact hh ((w32 (i + 6)), M27, M29)
      · exact v_iconst (pc := 289) hR dL_law_289 rfl (v_ret0 hR)
    refine v_tsw (pc := 33) (tgt := 291) (j := 3) (y := 3) hR dL_law_33 rfl rfl (by decide) (by decide) ?_ (fun hs30 => ?_)
    · unfold law_C3
      refine v_aload_n (pc := 291) hR 1 dL_law_291 rfl rfl ?_
      refine v_callx1 (pc := 292) hR (As := []) (st := []) jm_X11_rule jl_RL_28 (c_x_rule N  X) (fun v hv => by cases hv) rfl (by decide) (by decide) rfl (Nat.le_of_ble_eq_true rfl) dL_law_292 (fun r31 M32 => ?_)
      refine v_aload_n (pc := 295) hR 2 dL_law_295 rfl rfl ?_
      refine v_callm1 (pc := 296) hR (As := []) (st := [(0, r31)]) jm_X12_rule jl_RL_31 (c_m_rule N  Y) (fun v hv => by cases hv) rfl (by decide) (by decide) rfl (Nat.le_of_ble_eq_true rfl) dL_law_296 (fun r33 M34 => ?_)
      refine v_icmpeq (pc := 299) (tgt := 1230) hR dL_law_299 (by decide) ?_ ?_
      · refine v_iinc (pc := 1230) hR (j := 3) (lv' := [(3, 0, (w32 (i + 6))), (0, 4, (b0 : Int)), (1, 4, (gX.2.2 : Int)), (2, 4, (gM.2.2 : Int))]) dL_law_1230 rfl (by decide) rfl ?_
        refine v_goto (pc := 1233) (tgt := 18) hR dL_law_1233 (by decide) ?_
        refine v_pick (pc := 18) (lv' := [(0, 4, (b0 : Int)), (1, 4, (gX.2.2 : Int)), (2, 4, (gM.2.2 : Int)), (3, 0, (w32 (i + 6)))]) hR [1, 2, 3, 0] rfl ?_
        exact hh ((w32 (i + 6)), M32, M34)
      · exact v_iconst (pc := 302) hR dL_law_302 rfl (v_ret0 hR)
    refine v_tsw (pc := 33) (tgt := 304) (j := 4) (y := 4) hR dL_law_33 rfl rfl (by decide) (by decide) ?_ (fun hs35 => ?_)
    · unfold law_C4
      refine v_aload_n (pc := 304) hR 1 dL_law_304 rfl rfl ?_
      refine v_aload_n (pc := 305) hR 0 dL_law_305 rfl rfl ?_
      refine v_iload_n (pc := 306) hR 3 dL_law_306 rfl rfl ?_
      refine v_iconst (pc := 307) hR dL_law_307 rfl ?_
      refine v_iadd (pc := 308) hR dL_law_308 ?_
      refine v_chk (fun hc36 => ?_)
      refine v_sld (pc := 309) hR hc36.1 hc36.2 dL_law_309 ?_
      refine v_callx1 (pc := 310) hR (As := [(0, (jsx xs ((w32 (i + 1)))))]) (st := []) jm_X11_force jl_RL_32 (c_x_force N ((jsx xs ((w32 (i + 1))))) X) (fun v hv => by simp only [List.mem_cons, List.not_mem_nil, or_false] at hv; rcases hv with rfl <;> rfl) rfl (by decide) (by decide) rfl (Nat.le_of_ble_eq_true rfl) dL_law_310 (fun r37 M38 => ?_)
      refine v_aload_n (pc := 313) hR 2 dL_law_313 rfl rfl ?_
      refine v_aload_n (pc := 314) hR 0 dL_law_314 rfl rfl ?_
      refine v_iload_n (pc := 315) hR 3 dL_law_315 rfl rfl ?_
      refine v_iconst (pc := 316) hR dL_law_316 rfl ?_
      refine v_iadd (pc := 317) hR dL_law_317 ?_
      refine v_chk (fun hc39 => ?_)
      refine v_sld (pc := 318) hR hc39.1 hc39.2 dL_law_318 ?_
      refine v_callm1 (pc := 319) hR (As := [(0, (jsx xs ((w32 (i + 1)))))]) (st := [(0, r37)]) jm_X12_force jl_RL_35 (c_m_force N ((jsx xs ((w32 (i + 1))))) Y) (fun v hv => by simp only [List.mem_cons, List.not_mem_nil, or_false] at hv; rcases hv with rfl <;> rfl) rfl (by decide) (by decide) rfl (Nat.le_of_ble_eq_true rfl) dL_law_319 (fun r40 M41 => ?_)
      refine v_icmpeq (pc := 322) (tgt := 1230) hR dL_law_322 (by decide) ?_ ?_
      · refine v_iinc (pc := 1230) hR (j := 3) (lv' := [(3, 0, (w32 (i + 6))), (0, 4, (b0 : Int)), (1, 4, (gX.2.2 : Int)), (2, 4, (gM.2.2 : Int))]) dL_law_1230 rfl (by decide) rfl ?_
        refine v_goto (pc := 1233) (tgt := 18) hR dL_law_1233 (by decide) ?_
        refine v_pick (pc := 18) (lv' := [(0, 4, (b0 : Int)), (1, 4, (gX.2.2 : Int)), (2, 4, (gM.2.2 : Int)), (3, 0, (w32 (i + 6)))]) hR [1, 2, 3, 0] rfl ?_
        exact hh ((w32 (i + 6)), M38, M41)
      · exact v_iconst (pc := 325) hR dL_law_325 rfl (v_ret0 hR)
    refine v_tsw (pc := 33) (tgt := 327) (j := 5) (y := 5) hR dL_law_33 rfl rfl (by decide) (by decide) ?_ (fun hs42 => ?_)
    · unfold law_C5
      refine v_aload_n (pc := 327) hR 1 dL_law_327 rfl rfl ?_
      refine v_aload_n (pc := 328) hR 0 dL_law_328 rfl rfl ?_
      refine v_iload_n (pc := 329) hR 3 dL_law_329 rfl rfl ?_
      refine v_iconst (pc := 330) hR dL_law_330 rfl ?_
      refine v_iadd (pc := 331) hR dL_law_331 ?_
      refine v_chk (fun hc43 => ?_)
      refine v_sld (pc := 332) hR hc43.1 hc43.2 dL_law_332 ?_
      refine v_aload_n (pc := 333) hR 0 dL_law_333 rfl rfl ?_
      refine v_iload_n (pc := 334) hR 3 dL_law_334 rfl rfl ?_
      refine v_iconst (pc := 335) hR dL_law_335 rfl ?_
      refine v_iadd (pc := 336) hR dL_law_336 ?_
      refine v_chk (fun hc44 => ?_)
      refine v_sld (pc := 337) hR hc44.1 hc44.2 dL_law_337 ?_
      refine v_callxp (pc := 338) hR (As := [(0, (jsx xs ((w32 (i + 1))))), (0, (jsx xs ((w32 (i + 2)))))]) (st := []) jm_X11_well jl_RL_36 (c_x_well N ((jsx xs ((w32 (i + 1))))) ((jsx xs ((w32 (i + 2))))) X) (fun v hv => by simp only [List.mem_cons, List.not_mem_nil, or_false] at hv; rcases hv with rfl | rfl <;> rfl) rfl (by decide) (by decide) rfl (Nat.le_of_ble_eq_true rfl) dL_law_338 (fun r45 => ?_)
      refine v_aload_n (pc := 341) hR 2 dL_law_341 rfl rfl ?_
      refine v_aload_n (pc := 342) hR 0 dL_law_342 rfl rfl ?_
      refine v_iload_n (pc := 343) hR 3 dL_law_343 rfl rfl ?_
      refine v_iconst (pc := 344) hR dL_law_344 rfl ?_
      refine v_iadd (pc := 345) hR dL_law_345 ?_
      refine v_chk (fun hc46 => ?_)
      refine v_sld (pc := 346) hR hc46.1 hc46.2 dL_law_346 ?_
      refine v_aload_n (pc := 347) hR 0 dL_law_347 rfl rfl ?_
      refine v_iload_n (pc := 348) hR 3 dL_law_348 rfl rfl ?_
      refine v_iconst (pc := 349) hR dL_law_349 rfl ?_
      refine v_iadd (pc := 350) hR dL_law_350 ?_
      refine v_chk (fun hc47 => ?_)
      refine v_sld (pc := 351) hR hc47.1 hc47.2 dL_law_351 ?_
      refine v_callmp (pc := 352) hR (As := [(0, (jsx xs ((w32 (i + 1))))), (0, (jsx xs ((w32 (i + 2)))))]) (st := [(0, r45)]) jm_X12_well jl_RL_40 (c_m_well N ((jsx xs ((w32 (i + 1))))) ((jsx xs ((w32 (i + 2))))) Y) (fun v hv => by simp only [List.mem_cons, List.not_mem_nil, or_false] at hv; rcases hv with rfl | rfl <;> rfl) rfl (by decide) (by decide) rfl (Nat.le_of_ble_eq_true rfl) dL_law_352 (fun r48 => ?_)
      refine v_icmpeq (pc := 355) (tgt := 1230) hR dL_law_355 (by decide) ?_ ?_
      · refine v_iinc (pc := 1230) hR (j := 3) (lv' := [(3, 0, (w32 (i + 6))), (0, 4, (b0 : Int)), (1, 4, (gX.2.2 : Int)), (2, 4, (gM.2.2 : Int))]) dL_law_1230 rfl (by decide) rfl ?_
        refine v_goto (pc := 1233) (tgt := 18) hR dL_law_1233 (by decide) ?_
        refine v_pick (pc := 18) (lv' := [(0, 4, (b0 : Int)), (1, 4, (gX.2.2 : Int)), (2, 4, (gM.2.2 : Int)), (3, 0, (w32 (i + 6)))]) hR [1, 2, 3, 0] rfl ?_
        exact hh ((w32 (i + 6)), X, Y)
      · exact v_iconst (pc := 358) hR dL_law_358 rfl (v_ret0 hR)
    refine v_tsw (pc := 33) (tgt := 360) (j := 6) (y := 6) hR dL_law_33 rfl rfl (by decide) (by decide) ?_ (fun hs49 => ?_)
    · unfold law_C6
      refine v_aload_n (pc := 360) hR 1 dL_law_360 rfl rfl ?_
      refine v_aload_n (pc := 361) hR 0 dL_law_361 rfl rfl ?_
      refine v_iload_n (pc := 362) hR 3 dL_law_362 rfl rfl ?_
      refine v_iconst (pc := 363) hR dL_law_363 rfl ?_
      refine v_iadd (pc := 364) hR dL_law_364 ?_
      refine v_chk (fun hc50 => ?_)
      refine v_sld (pc := 365) hR hc50.1 hc50.2 dL_law_365 ?_
      refine v_aload_n (pc := 366) hR 0 dL_law_366 rfl rfl ?_
      refine v_iload_n (pc := 367) hR 3 dL_law_367 rfl rfl ?_
      refine v_iconst (pc := 368) hR dL_law_368 rfl ?_
      refine v_iadd (pc := 369) hR dL_law_369 ?_
      refine v_chk (fun hc51 => ?_)
      refine v_sld (pc := 370) hR hc51.1 hc51.2 dL_law_370 ?_
      refine v_callxp (pc := 371) hR (As := [(0, (jsx xs ((w32 (i + 1))))), (0, (jsx xs ((w32 (i + 2)))))]) (st := []) jm_X11_farm jl_RL_41 (c_x_farm N ((jsx xs ((w32 (i + 1))))) ((jsx xs ((w32 (i + 2))))) X) (fun v hv => by simp only [List.mem_cons, List.not_mem_nil, or_false] at hv; rcases hv with rfl | rfl <;> rfl) rfl (by decide) (by decide) rfl (Nat.le_of_ble_eq_true rfl) dL_law_371 (fun r52 => ?_)
      refine v_aload_n (pc := 374) hR 2 dL_law_374 rfl rfl ?_
      refine v_aload_n (pc := 375) hR 0 dL_law_375 rfl rfl ?_
      refine v_iload_n (pc := 376) hR 3 dL_law_376 rfl rfl ?_
      refine v_iconst (pc := 377) hR dL_law_377 rfl ?_
      refine v_iadd (pc := 378) hR dL_law_378 ?_
      refine v_chk (fun hc53 => ?_)
      refine v_sld (pc := 379) hR hc53.1 hc53.2 dL_law_379 ?_
      refine v_aload_n (pc := 380) hR 0 dL_law_380 rfl rfl ?_
      refine v_iload_n (pc := 381) hR 3 dL_law_381 rfl rfl ?_
      refine v_iconst (pc := 382) hR dL_law_382 rfl ?_
      refine v_iadd (pc := 383) hR dL_law_383 ?_
      refine v_chk (fun hc54 => ?_)
      refine v_sld (pc := 384) hR hc54.1 hc54.2 dL_law_384 ?_
      refine v_callmp (pc := 385) hR (As := [(0, (jsx xs ((w32 (i + 1))))), (0, (jsx xs ((w32 (i + 2)))))]) (st := [(0, r52)]) jm_X12_farm jl_RL_44 (c_m_farm N ((jsx xs ((w32 (i + 1))))) ((jsx xs ((w32 (i + 2))))) Y) (fun v hv => by simp only [List.mem_cons, List.not_mem_nil, or_false] at hv; rcases hv with rfl | rfl <;> rfl) rfl (by decide) (by decide) rfl (Nat.le_of_ble_eq_true rfl) dL_law_385 (fun r55 => ?_)
      refine v_icmpeq (pc := 388) (tgt := 1230) hR dL_law_388 (by decide) ?_ ?_
      · refine v_iinc (pc := 1230) hR (j := 3) (lv' := [(3, 0, (w32 (i + 6))), (0, 4, (b0 : Int)), (1, 4, (gX.2.2 : Int)), (2, 4, (gM.2.2 : Int))]) dL_law_1230 rfl (by decide) rfl ?_
        refine v_goto (pc := 1233) (tgt := 18) hR dL_law_1233 (by decide) ?_
        refine v_pick (pc := 18) (lv' := [(0, 4, (b0 : Int)), (1, 4, (gX.2.2 : Int)), (2, 4, (gM.2.2 : Int)), (3, 0, (w32 (i + 6)))]) hR [1, 2, 3, 0] rfl ?_
        exact hh ((w32 (i + 6)), X, Y)
      · exact v_iconst (pc := 391) hR dL_law_391 rfl (v_ret0 hR)
    refine v_tsw (pc := 33) (tgt := 393) (j := 7) (y := 7) hR dL_law_33 rfl rfl (by decide) (by decide) ?_ (fun hs56 => ?_)
    · unfold law_C7
      refine v_aload_n (pc := 393) hR 1 dL_law_393 rfl rfl ?_
      refine v_callxp (pc := 394) hR (As := []) (st := []) jm_X11_lie jl_RL_45 (c_x_lie N  X) (fun v hv => by cases hv) rfl (by decide) (by decide) rfl (Nat.le_of_ble_eq_true rfl) dL_law_394 (fun r57 => ?_)
      refine v_aload_n (pc := 397) hR 2 dL_law_397 rfl rfl ?_
      refine v_callmp (pc := 398) hR (As := []) (st := [(0, r57)]) jm_X12_lie jl_RL_48 (c_m_lie N  Y) (fun v hv => by cases hv) rfl (by decide) (by decide) rfl (Nat.le_of_ble_eq_true rfl) dL_law_398 (fun r58 => ?_)
      refine v_icmpeq (pc := 401) (tgt := 1230) hR dL_law_401 (by decide) ?_ ?_
      · refine v_iinc (pc := 1230) hR (j := 3) (lv' := [(3, 0, (w32 (i + 6))), (0, 4, (b0 : Int)), (1, 4, (gX.2.2 : Int)), (2, 4, (gM.2.2 : Int))]) dL_law_1230 rfl (by decide) rfl ?_
        refine v_goto (pc := 1233) (tgt := 18) hR dL_law_1233 (by decide) ?_
        refine v_pick (pc := 18) (lv' := [(0, 4, (b0 : Int)), (1, 4, (gX.2.2 : Int)), (2, 4, (gM.2.2 : Int)), (3, 0, (w32 (i + 6)))]) hR [1, 2, 3, 0] rfl ?_
        exact hh ((w32 (i + 6)), X, Y)
      · exact v_iconst (pc := 404) hR dL_law_404 rfl (v_ret0 hR)
    refine v_tsw (pc := 33) (tgt := 406) (j := 8) (y := 8) hR dL_law_33 rfl rfl (by decide) (by decide) ?_ (fun hs59 => ?_)
    · unfold law_C8
      refine v_aload_n (pc := 406) hR 1 dL_law_406 rfl rfl ?_
      refine v_callx1 (pc := 407) hR (As := []) (st := []) jm_X11_year jl_RL_49 (c_x_year N  X) (fun v hv => by cases hv) rfl (by decide) (by decide) rfl (Nat.le_of_ble_eq_true rfl) dL_law_407 (fun r60 M61 => ?_)
      refine v_aload_n (pc := 410) hR 2 dL_law_410 rfl rfl ?_
      refine v_callm1 (pc := 411) hR (As := []) (st := [(0, r60)]) jm_X12_year jl_RL_52 (c_m_year N  Y) (fun v hv => by cases hv) rfl (by decide) (by decide) rfl (Nat.le_of_ble_eq_true rfl) dL_law_411 (fun r62 M63 => ?_)
      refine v_icmpeq (pc := 414) (tgt := 1230) hR dL_law_414 (by decide) ?_ ?_
      · refine v_iinc (pc := 1230) hR (j := 3) (lv' := [(3, 0, (w32 (i + 6))), (0, 4, (b0 : Int)), (1, 4, (gX.2.2 : Int)), (2, 4, (gM.2.2 : Int))]) dL_law_1230 rfl (by decide) rfl ?_
        refine v_goto (pc := 1233) (tgt := 18) hR dL_law_1233 (by decide) ?_
        refine v_pick (pc := 18) (lv' := [(0, 4, (b0 : Int)), (1, 4, (gX.2.2 : Int)), (2, 4, (gM.2.2 : Int)), (3, 0, (w32 (i + 6)))]) hR [1, 2, 3, 0] rfl ?_
        exact hh ((w32 (i + 6)), M61, M63)
      · exact v_iconst (pc := 417) hR dL_law_417 rfl (v_ret0 hR)
    refine v_tsw (pc := 33) (tgt := 419) (j := 9) (y := 9) hR dL_law_33 rfl rfl (by decide) (by decide) ?_ (fun hs64 => ?_)
    · unfold law_C9
      refine v_aload_n (pc := 419) hR 1 dL_law_419 rfl rfl ?_
      refine v_aload_n (pc := 420) hR 0 dL_law_420 rfl rfl ?_
      refine v_iload_n (pc := 421) hR 3 dL_law_421 rfl rfl ?_
      refine v_iconst (pc := 422) hR dL_law_422 rfl ?_
      refine v_iadd (pc := 423) hR dL_law_423 ?_
      refine v_chk (fun hc65 => ?_)
      refine v_sld (pc := 424) hR hc65.1 hc65.2 dL_law_424 ?_
      refine v_aload_n (pc := 425) hR 0 dL_law_425 rfl rfl ?_
      refine v_iload_n (pc := 426) hR 3 dL_law_426 rfl rfl ?_
      refine v_iconst (pc := 427) hR dL_law_427 rfl ?_
      refine v_iadd (pc := 428) hR dL_law_428 ?_
      refine v_chk (fun hc66 => ?_)
      refine v_sld (pc := 429) hR hc66.1 hc66.2 dL_law_429 ?_
      refine v_callx1 (pc := 430) hR (As := [(0, (jsx xs ((w32 (i + 1))))), (0, (jsx xs ((w32 (i + 2)))))]) (st := []) jm_X11_wed jl_RL_53 (c_x_wed N ((jsx xs ((w32 (i + 1))))) ((jsx xs ((w32 (i + 2))))) X) (fun v hv => by simp only [List.mem_cons, List.not_mem_nil, or_false] at hv; rcases hv with rfl | rfl <;> rfl) rfl (by decide) (by decide) rfl (Nat.le_of_ble_eq_true rfl) dL_law_430 (fun r67 M68 => ?_)
      refine v_aload_n (pc := 433) hR 2 dL_law_433 rfl rfl ?_
      refine v_aload_n (pc := 434) hR 0 dL_law_434 rfl rfl ?_
      refine v_iload_n (pc := 435) hR 3 dL_law_435 rfl rfl ?_
      refine v_iconst (pc := 436) hR dL_law_436 rfl ?_
      refine v_iadd (pc := 437) hR dL_law_437 ?_
      refine v_chk (fun hc69 => ?_)
      refine v_sld (pc := 438) hR hc69.1 hc69.2 dL_law_438 ?_
      refine v_aload_n (pc := 439) hR 0 dL_law_439 rfl rfl ?_
      refine v_iload_n (pc := 440) hR 3 dL_law_440 rfl rfl ?_
      refine v_iconst (pc := 441) hR dL_law_441 rfl ?_
      refine v_iadd (pc := 442) hR dL_law_442 ?_
      refine v_chk (fun hc70 => ?_)
      refine v_sld (pc := 443) hR hc70.1 hc70.2 dL_law_443 ?_
      refine v_callm1 (pc := 444) hR (As := [(0, (jsx xs ((w32 (i + 1))))), (0, (jsx xs ((w32 (i + 2)))))]) (st := [(0, r67)]) jm_X12_wed jl_RL_56 (c_m_wed N ((jsx xs ((w32 (i + 1))))) ((jsx xs ((w32 (i + 2))))) Y) (fun v hv => by simp only [List.mem_cons, List.not_mem_nil, or_false] at hv; rcases hv with rfl | rfl <;> rfl) rfl (by decide) (by decide) rfl (Nat.le_of_ble_eq_true rfl) dL_law_444 (fun r71 M72 => ?_)
      refine v_icmpeq (pc := 447) (tgt := 1230) hR dL_law_447 (by decide) ?_ ?_
      · refine v_iinc (pc := 1230) hR (j := 3) (lv' := [(3, 0, (w32 (i + 6))), (0, 4, (b0 : Int)), (1, 4, (gX.2.2 : Int)), (2, 4, (gM.2.2 : Int))]) dL_law_1230 rfl (by decide) rfl ?_
        refine v_goto (pc := 1233) (tgt := 18) hR dL_law_1233 (by decide) ?_
        refine v_pick (pc := 18) (lv' := [(0, 4, (b0 : Int)), (1, 4, (gX.2.2 : Int)), (2, 4, (gM.2.2 : Int)), (3, 0, (w32 (i + 6)))]) hR [1, 2, 3, 0] rfl ?_
        exact hh ((w32 (i + 6)), M68, M72)
      · exact v_iconst (pc := 450) hR dL_law_450 rfl (v_ret0 hR)
    refine v_tsw (pc := 33) (tgt := 452) (j := 10) (y := 10) hR dL_law_33 rfl rfl (by decide) (by decide) ?_ (fun hs73 => ?_)
    · unfold law_C10
      refine v_aload_n (pc := 452) hR 1 dL_law_452 rfl rfl ?_
      refine v_aload_n (pc := 453) hR 0 dL_law_453 rfl rfl ?_
      refine v_iload_n (pc := 454) hR 3 dL_law_454 rfl rfl ?_
      refine v_iconst (pc := 455) hR dL_law_455 rfl ?_
      refine v_iadd (pc := 456) hR dL_law_456 ?_
      refine v_chk (fun hc74 => ?_)
      refine v_sld (pc := 457) hR hc74.1 hc74.2 dL_law_457 ?_
      refine v_aload_n (pc := 458) hR 0 dL_law_458 rfl rfl ?_
      refine v_iload_n (pc := 459) hR 3 dL_law_459 rfl rfl ?_
      refine v_iconst (pc := 460) hR dL_law_460 rfl ?_
      refine v_iadd (pc := 461) hR dL_law_461 ?_
      refine v_chk (fun hc75 => ?_)
      refine v_sld (pc := 462) hR hc75.1 hc75.2 dL_law_462 ?_
      refine v_callx1 (pc := 463) hR (As := [(0, (jsx xs ((w32 (i + 1))))), (0, (jsx xs ((w32 (i + 2)))))]) (st := []) jm_X11_pour jl_RL_57 (c_x_pour N ((jsx xs ((w32 (i + 1))))) ((jsx xs ((w32 (i + 2))))) X) (fun v hv => by simp only [List.mem_cons, List.not_mem_nil, or_false] at hv; rcases hv with rfl | rfl <;> rfl) rfl (by decide) (by decide) rfl (Nat.le_of_ble_eq_true rfl) dL_law_463 (fun r76 M77 => ?_)
      refine v_aload_n (pc := 466) hR 2 dL_law_466 rfl rfl ?_
      refine v_aload_n (pc := 467) hR 0 dL_law_467 rfl rfl ?_
      refine v_iload_n (pc := 468) hR 3 dL_law_468 rfl rfl ?_
      refine v_iconst (pc := 469) hR dL_law_469 rfl ?_
      refine v_iadd (pc := 470) hR dL_law_470 ?_
      refine v_chk (fun hc78 => ?_)
      refine v_sld (pc := 471) hR hc78.1 hc78.2 dL_law_471 ?_
      refine v_aload_n (pc := 472) hR 0 dL_law_472 rfl rfl ?_
      refine v_iload_n (pc := 473) hR 3 dL_law_473 rfl rfl ?_
      refine v_iconst (pc := 474) hR dL_law_474 rfl ?_
      refine v_iadd (pc := 475) hR dL_law_475 ?_
      refine v_chk (fun hc79 => ?_)
      refine v_sld (pc := 476) hR hc79.1 hc79.2 dL_law_476 ?_
      refine v_callm1 (pc := 477) hR (As := [(0, (jsx xs ((w32 (i + 1))))), (0, (jsx xs ((w32 (i + 2)))))]) (st := [(0, r76)]) jm_X12_pour jl_RL_60 (c_m_pour N ((jsx xs ((w32 (i + 1))))) ((jsx xs ((w32 (i + 2))))) Y) (fun v hv => by simp only [List.mem_cons, List.not_mem_nil, or_false] at hv; rcases hv with rfl | rfl <;> rfl) rfl (by decide) (by decide) rfl (Nat.le_of_ble_eq_true rfl) dL_law_477 (fun r80 M81 => ?_)
      refine v_icmpeq (pc := 480) (tgt := 1230) hR dL_law_480 (by decide) ?_ ?_
      · refine v_iinc (pc := 1230) hR (j := 3) (lv' := [(3, 0, (w32 (i + 6))), (0, 4, (b0 : Int)), (1, 4, (gX.2.2 : Int)), (2, 4, (gM.2.2 : Int))]) dL_law_1230 rfl (by decide) rfl ?_
        refine v_goto (pc := 1233) (tgt := 18) hR dL_law_1233 (by decide) ?_
        refine v_pick (pc := 18) (lv' := [(0, 4, (b0 : Int)), (1, 4, (gX.2.2 : Int)), (2, 4, (gM.2.2 : Int)), (3, 0, (w32 (i + 6)))]) hR [1, 2, 3, 0] rfl ?_
        exact hh ((w32 (i + 6)), M77, M81)
      · exact v_iconst (pc := 483) hR dL_law_483 rfl (v_ret0 hR)
    refine v_tsw (pc := 33) (tgt := 485) (j := 11) (y := 11) hR dL_law_33 rfl rfl (by decide) (by decide) ?_ (fun hs82 => ?_)
    · unfold law_C11
      refine v_aload_n (pc := 485) hR 1 dL_law_485 rfl rfl ?_
      refine v_aload_n (pc := 486) hR 0 dL_law_486 rfl rfl ?_
      refine v_iload_n (pc := 487) hR 3 dL_law_487 rfl rfl ?_
      refine v_iconst (pc := 488) hR dL_law_488 rfl ?_
      refine v_iadd (pc := 489) hR dL_law_489 ?_
      refine v_chk (fun hc83 => ?_)
      refine v_sld (pc := 490) hR hc83.1 hc83.2 dL_law_490 ?_
      refine v_aload_n (pc := 491) hR 0 dL_law_491 rfl rfl ?_
      refine v_iload_n (pc := 492) hR 3 dL_law_492 rfl rfl ?_
      refine v_iconst (pc := 493) hR dL_law_493 rfl ?_
      refine v_iadd (pc := 494) hR dL_law_494 ?_
      refine v_chk (fun hc84 => ?_)
      refine v_sld (pc := 495) hR hc84.1 hc84.2 dL_law_495 ?_
      refine v_callx1 (pc := 496) hR (As := [(0, (jsx xs ((w32 (i + 1))))), (0, (jsx xs ((w32 (i + 2)))))]) (st := []) jm_X11_dig jl_RL_61 (c_x_dig N ((jsx xs ((w32 (i + 1))))) ((jsx xs ((w32 (i + 2))))) X) (fun v hv => by simp only [List.mem_cons, List.not_mem_nil, or_false] at hv; rcases hv with rfl | rfl <;> rfl) rfl (by decide) (by decide) rfl (Nat.le_of_ble_eq_true rfl) dL_law_496 (fun r85 M86 => ?_)
      refine v_aload_n (pc := 499) hR 2 dL_law_499 rfl rfl ?_
      refine v_aload_n (pc := 500) hR 0 dL_law_500 rfl rfl ?_
      refine v_iload_n (pc := 501) hR 3 dL_law_501 rfl rfl ?_
      refine v_iconst (pc := 502) hR dL_law_502 rfl ?_
      refine v_iadd (pc := 503) hR dL_law_503 ?_
      refine v_chk (fun hc87 => ?_)
      refine v_sld (pc := 504) hR hc87.1 hc87.2 dL_law_504 ?_
      refine v_aload_n (pc := 505) hR 0 dL_law_505 rfl rfl ?_
      refine v_iload_n (pc := 506) hR 3 dL_law_506 rfl rfl ?_
      refine v_iconst (pc := 507) hR dL_law_507 rfl ?_
      refine v_iadd (pc := 508) hR dL_law_508 ?_
      refine v_chk (fun hc88 => ?_)
      refine v_sld (pc := 509) hR hc88.1 hc88.2 dL_law_509 ?_
      refine v_callm1 (pc := 510) hR (As := [(0, (jsx xs ((w32 (i + 1))))), (0, (jsx xs ((w32 (i + 2)))))]) (st := [(0, r85)]) jm_X12_dig jl_RL_64 (c_m_dig N ((jsx xs ((w32 (i + 1))))) ((jsx xs ((w32 (i + 2))))) Y) (fun v hv => by simp only [List.mem_cons, List.not_mem_nil, or_false] at hv; rcases hv with rfl | rfl <;> rfl) rfl (by decide) (by decide) rfl (Nat.le_of_ble_eq_true rfl) dL_law_510 (fun r89 M90 => ?_)
      refine v_icmpeq (pc := 513) (tgt := 1230) hR dL_law_513 (by decide) ?_ ?_
      · refine v_iinc (pc := 1230) hR (j := 3) (lv' := [(3, 0, (w32 (i + 6))), (0, 4, (b0 : Int)), (1, 4, (gX.2.2 : Int)), (2, 4, (gM.2.2 : Int))]) dL_law_1230 rfl (by decide) rfl ?_
        refine v_goto (pc := 1233) (tgt := 18) hR dL_law_1233 (by decide) ?_
        refine v_pick (pc := 18) (lv' := [(0, 4, (b0 : Int)), (1, 4, (gX.2.2 : Int)), (2, 4, (gM.2.2 : Int)), (3, 0, (w32 (i + 6)))]) hR [1, 2, 3, 0] rfl ?_
        exact hh ((w32 (i + 6)), M86, M90)
      · exact v_iconst (pc := 516) hR dL_law_516 rfl (v_ret0 hR)
    refine v_tsw (pc := 33) (tgt := 518) (j := 12) (y := 12) hR dL_law_33 rfl rfl (by decide) (by decide) ?_ (fun hs91 => ?_)
    · unfold law_C12
      refine v_aload_n (pc := 518) hR 1 dL_law_518 rfl rfl ?_
      refine v_aload_n (pc := 519) hR 0 dL_law_519 rfl rfl ?_
      refine v_iload_n (pc := 520) hR 3 dL_law_520 rfl rfl ?_
      refine v_iconst (pc := 521) hR dL_law_521 rfl ?_
      refine v_iadd (pc := 522) hR dL_law_522 ?_
      refine v_chk (fun hc92 => ?_)
      refine v_sld (pc := 523) hR hc92.1 hc92.2 dL_law_523 ?_
      refine v_callx1 (pc := 524) hR (As := [(0, (jsx xs ((w32 (i + 1)))))]) (st := []) jm_X11_birth jl_RL_65 (c_x_birth N ((jsx xs ((w32 (i + 1))))) X) (fun v hv => by simp only [List.mem_cons, List.not_mem_nil, or_false] at hv; rcases hv with rfl <;> rfl) rfl (by decide) (by decide) rfl (Nat.le_of_ble_eq_true rfl) dL_law_524 (fun r93 M94 => ?_)
      refine v_aload_n (pc := 527) hR 2 dL_law_527 rfl rfl ?_
      refine v_aload_n (pc := 528) hR 0 dL_law_528 rfl rfl ?_
      refine v_iload_n (pc := 529) hR 3 dL_law_529 rfl rfl ?_
      refine v_iconst (pc := 530) hR dL_law_530 rfl ?_
      refine v_iadd (pc := 531) hR dL_law_531 ?_
      refine v_chk (fun hc95 => ?_)
      refine v_sld (pc := 532) hR hc95.1 hc95.2 dL_law_532 ?_
      refine v_callm1 (pc := 533) hR (As := [(0, (jsx xs ((w32 (i + 1)))))]) (st := [(0, r93)]) jm_X12_birth jl_RL_68 (c_m_birth N ((jsx xs ((w32 (i + 1))))) Y) (fun v hv => by simp only [List.mem_cons, List.not_mem_nil, or_false] at hv; rcases hv with rfl <;> rfl) rfl (by decide) (by decide) rfl (Nat.le_of_ble_eq_true rfl) dL_law_533 (fun r96 M97 => ?_)
      refine v_icmpeq (pc := 536) (tgt := 1230) hR dL_law_536 (by decide) ?_ ?_
      · refine v_iinc (pc := 1230) hR (j := 3) (lv' := [(3, 0, (w32 (i + 6))), (0, 4, (b0 : Int)), (1, 4, (gX.2.2 : Int)), (2, 4, (gM.2.2 : Int))]) dL_law_1230 rfl (by decide) rfl ?_
        refine v_goto (pc := 1233) (tgt := 18) hR dL_law_1233 (by decide) ?_
        refine v_pick (pc := 18) (lv' := [(0, 4, (b0 : Int)), (1, 4, (gX.2.2 : Int)), (2, 4, (gM.2.2 : Int)), (3, 0, (w32 (i + 6)))]) hR [1, 2, 3, 0] rfl ?_
        exact hh ((w32 (i + 6)), M94, M97)
      · exact v_iconst (pc := 539) hR dL_law_539 rfl (v_ret0 hR)
    refine v_tsw (pc := 33) (tgt := 541) (j := 13) (y := 13) hR dL_law_33 rfl rfl (by decide) (by decide) ?_ (fun hs98 => ?_)
    · unfold law_C13
      refine v_aload_n (pc := 541) hR 1 dL_law_541 rfl rfl ?_
      refine v_callx1 (pc := 542) hR (As := []) (st := []) jm_X11_undo jl_RL_69 (c_x_undo N  X) (fun v hv => by cases hv) rfl (by decide) (by decide) rfl (Nat.le_of_ble_eq_true rfl) dL_law_542 (fun r99 M100 => ?_)
      refine v_aload_n (pc := 545) hR 2 dL_law_545 rfl rfl ?_
      refine v_callm1 (pc := 546) hR (As := []) (st := [(0, r99)]) jm_X12_undo jl_RL_72 (c_m_undo N  Y) (fun v hv => by cases hv) rfl (by decide) (by decide) rfl (Nat.le_of_ble_eq_true rfl) dL_law_546 (fun r101 M102 => ?_)
      refine v_icmpeq (pc := 549) (tgt := 1230) hR dL_law_549 (by decide) ?_ ?_
      · refine v_iinc (pc := 1230) hR (j := 3) (lv' := [(3, 0, (w32 (i + 6))), (0, 4, (b0 : Int)), (1, 4, (gX.2.2 : Int)), (2, 4, (gM.2.2 : Int))]) dL_law_1230 rfl (by decide) rfl ?_
        refine v_goto (pc := 1233) (tgt := 18) hR dL_law_1233 (by decide) ?_
        refine v_pick (pc := 18) (lv' := [(0, 4, (b0 : Int)), (1, 4, (gX.2.2 : Int)), (2, 4, (gM.2.2 : Int)), (3, 0, (w32 (i + 6)))]) hR [1, 2, 3, 0] rfl ?_
        exact hh ((w32 (i + 6)), M100, M102)
      · exact v_iconst (pc := 552) hR dL_law_552 rfl (v_ret0 hR)
    refine v_tsw (pc := 33) (tgt := 554) (j := 14) (y := 14) hR dL_law_33 rfl rfl (by decide) (by decide) ?_ (fun hs103 => ?_)
    · unfold law_C14
      refine v_aload_n (pc := 554) hR 1 dL_law_554 rfl rfl ?_
      refine v_aload_n (pc := 555) hR 0 dL_law_555 rfl rfl ?_
      refine v_iload_n (pc := 556) hR 3 dL_law_556 rfl rfl ?_
      refine v_iconst (pc := 557) hR dL_law_557 rfl ?_
      refine v_iadd (pc := 558) hR dL_law_558 ?_
      refine v_chk (fun hc104 => ?_)
      refine v_sld (pc := 559) hR hc104.1 hc104.2 dL_law_559 ?_
      refine v_callx1 (pc := 560) hR (As := [(0, (jsx xs ((w32 (i + 1)))))]) (st := []) jm_X11_fewest jl_RL_73 (c_x_fewest N ((jsx xs ((w32 (i + 1))))) X) (fun v hv => by simp only [List.mem_cons, List.not_mem_nil, or_false] at hv; rcases hv with rfl <;> rfl) rfl (by decide) (by decide) rfl (Nat.le_of_ble_eq_true rfl) dL_law_560 (fun r105 M106 => ?_)
      refine v_aload_n (pc := 563) hR 2 dL_law_563 rfl rfl ?_
      refine v_aload_n (pc := 564) hR 0 dL_law_564 rfl rfl ?_
      refine v_iload_n (pc := 565) hR 3 dL_law_565 rfl rfl ?_
      refine v_iconst (pc := 566) hR dL_law_566 rfl ?_
      refine v_iadd (pc := 567) hR dL_law_567 ?_
      refine v_chk (fun hc107 => ?_)
      refine v_sld (pc := 568) hR hc107.1 hc107.2 dL_law_568 ?_
      refine v_callm1 (pc := 569) hR (As := [(0, (jsx xs ((w32 (i + 1)))))]) (st := [(0, r105)]) jm_X12_fewest jl_RL_76 (c_m_fewest N ((jsx xs ((w32 (i + 1))))) Y) (fun v hv => by simp only [List.mem_cons, List.not_mem_nil, or_false] at hv; rcases hv with rfl <;> rfl) rfl (by decide) (by decide) rfl (Nat.le_of_ble_eq_true rfl) dL_law_569 (fun r108 M109 => ?_)
      refine v_icmpeq (pc := 572) (tgt := 1230) hR dL_law_572 (by decide) ?_ ?_
      · refine v_iinc (pc := 1230) hR (j := 3) (lv' := [(3, 0, (w32 (i + 6))), (0, 4, (b0 : Int)), (1, 4, (gX.2.2 : Int)), (2, 4, (gM.2.2 : Int))]) dL_law_1230 rfl (by decide) rfl ?_
        refine v_goto (pc := 1233) (tgt := 18) hR dL_law_1233 (by decide) ?_
        refine v_pick (pc := 18) (lv' := [(0, 4, (b0 : Int)), (1, 4, (gX.2.2 : Int)), (2, 4, (gM.2.2 : Int)), (3, 0, (w32 (i + 6)))]) hR [1, 2, 3, 0] rfl ?_
        exact hh ((w32 (i + 6)), M106, M109)
      · exact v_iconst (pc := 575) hR dL_law_575 rfl (v_ret0 hR)
    refine v_tsw (pc := 33) (tgt := 577) (j := 15) (y := 15) hR dL_law_33 rfl rfl (by decide) (by decide) ?_ (fun hs110 => ?_)
    · unfold law_C15
      refine v_aload_n (pc := 577) hR 1 dL_law_577 rfl rfl ?_
      refine v_aload_n (pc := 578) hR 0 dL_law_578 rfl rfl ?_
      refine v_iload_n (pc := 579) hR 3 dL_law_579 rfl rfl ?_
      refine v_iconst (pc := 580) hR dL_law_580 rfl ?_
      refine v_iadd (pc := 581) hR dL_law_581 ?_
      refine v_chk (fun hc111 => ?_)
      refine v_sld (pc := 582) hR hc111.1 hc111.2 dL_law_582 ?_
      refine v_aload_n (pc := 583) hR 0 dL_law_583 rfl rfl ?_
      refine v_iload_n (pc := 584) hR 3 dL_law_584 rfl rfl ?_
      refine v_iconst (pc := 585) hR dL_law_585 rfl ?_
      refine v_iadd (pc := 586) hR dL_law_586 ?_
      refine v_chk (fun hc112 => ?_)
      refine v_sld (pc := 587) hR hc112.1 hc112.2 dL_law_587 ?_
      refine v_aload_n (pc := 588) hR 0 dL_law_588 rfl rfl ?_
      refine v_iload_n (pc := 589) hR 3 dL_law_589 rfl rfl ?_
      refine v_iconst (pc := 590) hR dL_law_590 rfl ?_
      refine v_iadd (pc := 591) hR dL_law_591 ?_
      refine v_chk (fun hc113 => ?_)
      refine v_sld (pc := 592) hR hc113.1 hc113.2 dL_law_592 ?_
      refine v_callx1 (pc := 593) hR (As := [(0, (jsx xs ((w32 (i + 1))))), (0, (jsx xs ((w32 (i + 2))))), (0, (jsx xs ((w32 (i + 3)))))]) (st := []) jm_X11_step jl_RL_77 (c_x_step N ((jsx xs ((w32 (i + 1))))) ((jsx xs ((w32 (i + 2))))) ((jsx xs ((w32 (i + 3))))) X) (fun v hv => by simp only [List.mem_cons, List.not_mem_nil, or_false] at hv; rcases hv with rfl | rfl | rfl <;> rfl) rfl (by decide) (by decide) rfl (Nat.le_of_ble_eq_true rfl) dL_law_593 (fun r114 M115 => ?_)
      refine v_aload_n (pc := 596) hR 2 dL_law_596 rfl rfl ?_
      refine v_aload_n (pc := 597) hR 0 dL_law_597 rfl rfl ?_
      refine v_iload_n (pc := 598) hR 3 dL_law_598 rfl rfl ?_
      refine v_iconst (pc := 599) hR dL_law_599 rfl ?_
      refine v_iadd (pc := 600) hR dL_law_600 ?_
      refine v_chk (fun hc116 => ?_)
      refine v_sld (pc := 601) hR hc116.1 hc116.2 dL_law_601 ?_
      refine v_aload_n (pc := 602) hR 0 dL_law_602 rfl rfl ?_
      refine v_iload_n (pc := 603) hR 3 dL_law_603 rfl rfl ?_
      refine v_iconst (pc := 604) hR dL_law_604 rfl ?_
      refine v_iadd (pc := 605) hR dL_law_605 ?_
      refine v_chk (fun hc117 => ?_)
      refine v_sld (pc := 606) hR hc117.1 hc117.2 dL_law_606 ?_
      refine v_aload_n (pc := 607) hR 0 dL_law_607 rfl rfl ?_
      refine v_iload_n (pc := 608) hR 3 dL_law_608 rfl rfl ?_
      refine v_iconst (pc := 609) hR dL_law_609 rfl ?_
      refine v_iadd (pc := 610) hR dL_law_610 ?_
      refine v_chk (fun hc118 => ?_)
      refine v_sld (pc := 611) hR hc118.1 hc118.2 dL_law_611 ?_
      refine v_callm1 (pc := 612) hR (As := [(0, (jsx xs ((w32 (i + 1))))), (0, (jsx xs ((w32 (i + 2))))), (0, (jsx xs ((w32 (i + 3)))))]) (st := [(0, r114)]) jm_X12_step jl_RL_81 (c_m_step N ((jsx xs ((w32 (i + 1))))) ((jsx xs ((w32 (i + 2))))) ((jsx xs ((w32 (i + 3))))) Y) (fun v hv => by simp only [List.mem_cons, List.not_mem_nil, or_false] at hv; rcases hv with rfl | rfl | rfl <;> rfl) rfl (by decide) (by decide) rfl (Nat.le_of_ble_eq_true rfl) dL_law_612 (fun r119 M120 => ?_)
      refine v_icmpeq (pc := 615) (tgt := 1230) hR dL_law_615 (by decide) ?_ ?_
      · refine v_iinc (pc := 1230) hR (j := 3) (lv' := [(3, 0, (w32 (i + 6))), (0, 4, (b0 : Int)), (1, 4, (gX.2.2 : Int)), (2, 4, (gM.2.2 : Int))]) dL_law_1230 rfl (by decide) rfl ?_
        refine v_goto (pc := 1233) (tgt := 18) hR dL_law_1233 (by decide) ?_
        refine v_pick (pc := 18) (lv' := [(0, 4, (b0 : Int)), (1, 4, (gX.2.2 : Int)), (2, 4, (gM.2.2 : Int)), (3, 0, (w32 (i + 6)))]) hR [1, 2, 3, 0] rfl ?_
        exact hh ((w32 (i + 6)), M115, M120)
      · exact v_iconst (pc := 618) hR dL_law_618 rfl (v_ret0 hR)
    refine v_tsw (pc := 33) (tgt := 620) (j := 16) (y := 16) hR dL_law_33 rfl rfl (by decide) (by decide) ?_ (fun hs121 => ?_)
    · unfold law_C16
      refine v_aload_n (pc := 620) hR 1 dL_law_620 rfl rfl ?_
      refine v_aload_n (pc := 621) hR 0 dL_law_621 rfl rfl ?_
      refine v_iload_n (pc := 622) hR 3 dL_law_622 rfl rfl ?_
      refine v_iconst (pc := 623) hR dL_law_623 rfl ?_
      refine v_iadd (pc := 624) hR dL_law_624 ?_
      refine v_chk (fun hc122 => ?_)
      refine v_sld (pc := 625) hR hc122.1 hc122.2 dL_law_625 ?_
      refine v_callx1 (pc := 626) hR (As := [(0, (jsx xs ((w32 (i + 1)))))]) (st := []) jm_X11_lies jl_RL_82 (c_x_lies N ((jsx xs ((w32 (i + 1))))) X) (fun v hv => by simp only [List.mem_cons, List.not_mem_nil, or_false] at hv; rcases hv with rfl <;> rfl) rfl (by decide) (by decide) rfl (Nat.le_of_ble_eq_true rfl) dL_law_626 (fun r123 M124 => ?_)
      refine v_aload_n (pc := 629) hR 2 dL_law_629 rfl rfl ?_
      refine v_aload_n (pc := 630) hR 0 dL_law_630 rfl rfl ?_
      refine v_iload_n (pc := 631) hR 3 dL_law_631 rfl rfl ?_
      refine v_iconst (pc := 632) hR dL_law_632 rfl ?_
      refine v_iadd (pc := 633) hR dL_law_633 ?_
      refine v_chk (fun hc125 => ?_)
      refine v_sld (pc := 634) hR hc125.1 hc125.2 dL_law_634 ?_
      refine v_callm1 (pc := 635) hR (As := [(0, (jsx xs ((w32 (i + 1)))))]) (st := [(0, r123)]) jm_X12_lies jl_RL_85 (c_m_lies N ((jsx xs ((w32 (i + 1))))) Y) (fun v hv => by simp only [List.mem_cons, List.not_mem_nil, or_false] at hv; rcases hv with rfl <;> rfl) rfl (by decide) (by decide) rfl (Nat.le_of_ble_eq_true rfl) dL_law_635 (fun r126 M127 => ?_)
      refine v_icmpeq (pc := 638) (tgt := 1230) hR dL_law_638 (by decide) ?_ ?_
      · refine v_iinc (pc := 1230) hR (j := 3) (lv' := [(3, 0, (w32 (i + 6))), (0, 4, (b0 : Int)), (1, 4, (gX.2.2 : Int)), (2, 4, (gM.2.2 : Int))]) dL_law_1230 rfl (by decide) rfl ?_
        refine v_goto (pc := 1233) (tgt := 18) hR dL_law_1233 (by decide) ?_
        refine v_pick (pc := 18) (lv' := [(0, 4, (b0 : Int)), (1, 4, (gX.2.2 : Int)), (2, 4, (gM.2.2 : Int)), (3, 0, (w32 (i + 6)))]) hR [1, 2, 3, 0] rfl ?_
        exact hh ((w32 (i + 6)), M124, M127)
      · exact v_iconst (pc := 641) hR dL_law_641 rfl (v_ret0 hR)
    refine v_tsw (pc := 33) (tgt := 643) (j := 17) (y := 17) hR dL_law_33 rfl rfl (by decide) (by decide) ?_ (fun hs128 => ?_)
    · unfold law_C17
      refine v_aload_n (pc := 643) hR 1 dL_law_643 rfl rfl ?_
      refine v_aload_n (pc := 644) hR 0 dL_law_644 rfl rfl ?_
      refine v_iload_n (pc := 645) hR 3 dL_law_645 rfl rfl ?_
      refine v_iconst (pc := 646) hR dL_law_646 rfl ?_
      refine v_iadd (pc := 647) hR dL_law_647 ?_
      refine v_chk (fun hc129 => ?_)
      refine v_sld (pc := 648) hR hc129.1 hc129.2 dL_law_648 ?_
      refine v_callx1 (pc := 649) hR (As := [(0, (jsx xs ((w32 (i + 1)))))]) (st := []) jm_X11_farthest jl_RL_86 (c_x_farthest N ((jsx xs ((w32 (i + 1))))) X) (fun v hv => by simp only [List.mem_cons, List.not_mem_nil, or_false] at hv; rcases hv with rfl <;> rfl) rfl (by decide) (by decide) rfl (Nat.le_of_ble_eq_true rfl) dL_law_649 (fun r130 M131 => ?_)
      refine v_aload_n (pc := 652) hR 2 dL_law_652 rfl rfl ?_
      refine v_aload_n (pc := 653) hR 0 dL_law_653 rfl rfl ?_
      refine v_iload_n (pc := 654) hR 3 dL_law_654 rfl rfl ?_
      refine v_iconst (pc := 655) hR dL_law_655 rfl ?_
      refine v_iadd (pc := 656) hR dL_law_656 ?_
      refine v_chk (fun hc132 => ?_)
      refine v_sld (pc := 657) hR hc132.1 hc132.2 dL_law_657 ?_
      refine v_callm1 (pc := 658) hR (As := [(0, (jsx xs ((w32 (i + 1)))))]) (st := [(0, r130)]) jm_X12_farthest jl_RL_89 (c_m_farthest N ((jsx xs ((w32 (i + 1))))) Y) (fun v hv => by simp only [List.mem_cons, List.not_mem_nil, or_false] at hv; rcases hv with rfl <;> rfl) rfl (by decide) (by decide) rfl (Nat.le_of_ble_eq_true rfl) dL_law_658 (fun r133 M134 => ?_)
      refine v_icmpeq (pc := 661) (tgt := 1230) hR dL_law_661 (by decide) ?_ ?_
      · refine v_iinc (pc := 1230) hR (j := 3) (lv' := [(3, 0, (w32 (i + 6))), (0, 4, (b0 : Int)), (1, 4, (gX.2.2 : Int)), (2, 4, (gM.2.2 : Int))]) dL_law_1230 rfl (by decide) rfl ?_
        refine v_goto (pc := 1233) (tgt := 18) hR dL_law_1233 (by decide) ?_
        refine v_pick (pc := 18) (lv' := [(0, 4, (b0 : Int)), (1, 4, (gX.2.2 : Int)), (2, 4, (gM.2.2 : Int)), (3, 0, (w32 (i + 6)))]) hR [1, 2, 3, 0] rfl ?_
        exact hh ((w32 (i + 6)), M131, M134)
      · exact v_iconst (pc := 664) hR dL_law_664 rfl (v_ret0 hR)
    refine v_tsw (pc := 33) (tgt := 666) (j := 18) (y := 18) hR dL_law_33 rfl rfl (by decide) (by decide) ?_ (fun hs135 => ?_)
    · unfold law_C18
      refine v_aload_n (pc := 666) hR 1 dL_law_666 rfl rfl ?_
      refine v_aload_n (pc := 667) hR 0 dL_law_667 rfl rfl ?_
      refine v_iload_n (pc := 668) hR 3 dL_law_668 rfl rfl ?_
      refine v_iconst (pc := 669) hR dL_law_669 rfl ?_
      refine v_iadd (pc := 670) hR dL_law_670 ?_
      refine v_chk (fun hc136 => ?_)
      refine v_sld (pc := 671) hR hc136.1 hc136.2 dL_law_671 ?_
      refine v_aload_n (pc := 672) hR 0 dL_law_672 rfl rfl ?_
      refine v_iload_n (pc := 673) hR 3 dL_law_673 rfl rfl ?_
      refine v_iconst (pc := 674) hR dL_law_674 rfl ?_
      refine v_iadd (pc := 675) hR dL_law_675 ?_
      refine v_chk (fun hc137 => ?_)
      refine v_sld (pc := 676) hR hc137.1 hc137.2 dL_law_676 ?_
      refine v_callxp (pc := 677) hR (As := [(0, (jsx xs ((w32 (i + 1))))), (0, (jsx xs ((w32 (i + 2)))))]) (st := []) jm_X11_comes jl_RL_90 (c_x_comes N ((jsx xs ((w32 (i + 1))))) ((jsx xs ((w32 (i + 2))))) X) (fun v hv => by simp only [List.mem_cons, List.not_mem_nil, or_false] at hv; rcases hv with rfl | rfl <;> rfl) rfl (by decide) (by decide) rfl (Nat.le_of_ble_eq_true rfl) dL_law_677 (fun r138 => ?_)
      refine v_aload_n (pc := 680) hR 2 dL_law_680 rfl rfl ?_
      refine v_aload_n (pc := 681) hR 0 dL_law_681 rfl rfl ?_
      refine v_iload_n (pc := 682) hR 3 dL_law_682 rfl rfl ?_
      refine v_iconst (pc := 683) hR dL_law_683 rfl ?_
      refine v_iadd (pc := 684) hR dL_law_684 ?_
      refine v_chk (fun hc139 => ?_)
      refine v_sld (pc := 685) hR hc139.1 hc139.2 dL_law_685 ?_
      refine v_aload_n (pc := 686) hR 0 dL_law_686 rfl rfl ?_
      refine v_iload_n (pc := 687) hR 3 dL_law_687 rfl rfl ?_
      refine v_iconst (pc := 688) hR dL_law_688 rfl ?_
      refine v_iadd (pc := 689) hR dL_law_689 ?_
      refine v_chk (fun hc140 => ?_)
      refine v_sld (pc := 690) hR hc140.1 hc140.2 dL_law_690 ?_
      refine v_callmp (pc := 691) hR (As := [(0, (jsx xs ((w32 (i + 1))))), (0, (jsx xs ((w32 (i + 2)))))]) (st := [(0, r138)]) jm_X12_comes jl_RL_93 (c_m_comes N ((jsx xs ((w32 (i + 1))))) ((jsx xs ((w32 (i + 2))))) Y) (fun v hv => by simp only [List.mem_cons, List.not_mem_nil, or_false] at hv; rcases hv with rfl | rfl <;> rfl) rfl (by decide) (by decide) rfl (Nat.le_of_ble_eq_true rfl) dL_law_691 (fun r141 => ?_)
      refine v_icmpeq (pc := 694) (tgt := 1230) hR dL_law_694 (by decide) ?_ ?_
      · refine v_iinc (pc := 1230) hR (j := 3) (lv' := [(3, 0, (w32 (i + 6))), (0, 4, (b0 : Int)), (1, 4, (gX.2.2 : Int)), (2, 4, (gM.2.2 : Int))]) dL_law_1230 rfl (by decide) rfl ?_
        refine v_goto (pc := 1233) (tgt := 18) hR dL_law_1233 (by decide) ?_
        refine v_pick (pc := 18) (lv' := [(0, 4, (b0 : Int)), (1, 4, (gX.2.2 : Int)), (2, 4, (gM.2.2 : Int)), (3, 0, (w32 (i + 6)))]) hR [1, 2, 3, 0] rfl ?_
        exact hh ((w32 (i + 6)), X, Y)
      · exact v_iconst (pc := 697) hR dL_law_697 rfl (v_ret0 hR)
    refine v_tsw (pc := 33) (tgt := 699) (j := 19) (y := 19) hR dL_law_33 rfl rfl (by decide) (by decide) ?_ (fun hs142 => ?_)
    · unfold law_C19
      refine v_aload_n (pc := 699) hR 1 dL_law_699 rfl rfl ?_
      refine v_aload_n (pc := 700) hR 0 dL_law_700 rfl rfl ?_
      refine v_iload_n (pc := 701) hR 3 dL_law_701 rfl rfl ?_
      refine v_iconst (pc := 702) hR dL_law_702 rfl ?_
      refine v_iadd (pc := 703) hR dL_law_703 ?_
      refine v_chk (fun hc143 => ?_)
      refine v_sld (pc := 704) hR hc143.1 hc143.2 dL_law_704 ?_
      refine v_callxp (pc := 705) hR (As := [(0, (jsx xs ((w32 (i + 1)))))]) (st := []) jm_X11_rings jl_RL_94 (c_x_rings N ((jsx xs ((w32 (i + 1))))) X) (fun v hv => by simp only [List.mem_cons, List.not_mem_nil, or_false] at hv; rcases hv with rfl <;> rfl) rfl (by decide) (by decide) rfl (Nat.le_of_ble_eq_true rfl) dL_law_705 (fun r144 => ?_)
      refine v_aload_n (pc := 708) hR 2 dL_law_708 rfl rfl ?_
      refine v_aload_n (pc := 709) hR 0 dL_law_709 rfl rfl ?_
      refine v_iload_n (pc := 710) hR 3 dL_law_710 rfl rfl ?_
      refine v_iconst (pc := 711) hR dL_law_711 rfl ?_
      refine v_iadd (pc := 712) hR dL_law_712 ?_
      refine v_chk (fun hc145 => ?_)
      refine v_sld (pc := 713) hR hc145.1 hc145.2 dL_law_713 ?_
      refine v_callmp (pc := 714) hR (As := [(0, (jsx xs ((w32 (i + 1)))))]) (st := [(0, r144)]) jm_X12_rings jl_RL_97 (c_m_rings N ((jsx xs ((w32 (i + 1))))) Y) (fun v hv => by simp only [List.mem_cons, List.not_mem_nil, or_false] at hv; rcases hv with rfl <;> rfl) rfl (by decide) (by decide) rfl (Nat.le_of_ble_eq_true rfl) dL_law_714 (fun r146 => ?_)
      refine v_icmpeq (pc := 717) (tgt := 1230) hR dL_law_717 (by decide) ?_ ?_
      · refine v_iinc (pc := 1230) hR (j := 3) (lv' := [(3, 0, (w32 (i + 6))), (0, 4, (b0 : Int)), (1, 4, (gX.2.2 : Int)), (2, 4, (gM.2.2 : Int))]) dL_law_1230 rfl (by decide) rfl ?_
        refine v_goto (pc := 1233) (tgt := 18) hR dL_law_1233 (by decide) ?_
        refine v_pick (pc := 18) (lv' := [(0, 4, (b0 : Int)), (1, 4, (gX.2.2 : Int)), (2, 4, (gM.2.2 : Int)), (3, 0, (w32 (i + 6)))]) hR [1, 2, 3, 0] rfl ?_
        exact hh ((w32 (i + 6)), X, Y)
      · exact v_iconst (pc := 720) hR dL_law_720 rfl (v_ret0 hR)
    refine v_tsw (pc := 33) (tgt := 722) (j := 20) (y := 20) hR dL_law_33 rfl rfl (by decide) (by decide) ?_ (fun hs147 => ?_)
    · unfold law_C20
      refine v_aload_n (pc := 722) hR 1 dL_law_722 rfl rfl ?_
      refine v_aload_n (pc := 723) hR 0 dL_law_723 rfl rfl ?_
      refine v_iload_n (pc := 724) hR 3 dL_law_724 rfl rfl ?_
      refine v_iconst (pc := 725) hR dL_law_725 rfl ?_
      refine v_iadd (pc := 726) hR dL_law_726 ?_
      refine v_chk (fun hc148 => ?_)
      refine v_sld (pc := 727) hR hc148.1 hc148.2 dL_law_727 ?_
      refine v_aload_n (pc := 728) hR 0 dL_law_728 rfl rfl ?_
      refine v_iload_n (pc := 729) hR 3 dL_law_729 rfl rfl ?_
      refine v_iconst (pc := 730) hR dL_law_730 rfl ?_
      refine v_iadd (pc := 731) hR dL_law_731 ?_
      refine v_chk (fun hc149 => ?_)
      refine v_sld (pc := 732) hR hc149.1 hc149.2 dL_law_732 ?_
      refine v_aload_n (pc := 733) hR 0 dL_law_733 rfl rfl ?_
      refine v_iload_n (pc := 734) hR 3 dL_law_734 rfl rfl ?_
      refine v_iconst (pc := 735) hR dL_law_735 rfl ?_
      refine v_iadd (pc := 736) hR dL_law_736 ?_
      refine v_chk (fun hc150 => ?_)
      refine v_sld (pc := 737) hR hc150.1 hc150.2 dL_law_737 ?_
      refine v_callx1 (pc := 738) hR (As := [(0, (jsx xs ((w32 (i + 1))))), (0, (jsx xs ((w32 (i + 2))))), (0, (jsx xs ((w32 (i + 3)))))]) (st := []) jm_X11_ahead jl_RL_98 (c_x_ahead N ((jsx xs ((w32 (i + 1))))) ((jsx xs ((w32 (i + 2))))) ((jsx xs ((w32 (i + 3))))) X) (fun v hv => by simp only [List.mem_cons, List.not_mem_nil, or_false] at hv; rcases hv with rfl | rfl | rfl <;> rfl) rfl (by decide) (by decide) rfl (Nat.le_of_ble_eq_true rfl) dL_law_738 (fun r151 M152 => ?_)
      refine v_aload_n (pc := 741) hR 2 dL_law_741 rfl rfl ?_
      refine v_aload_n (pc := 742) hR 0 dL_law_742 rfl rfl ?_
      refine v_iload_n (pc := 743) hR 3 dL_law_743 rfl rfl ?_
      refine v_iconst (pc := 744) hR dL_law_744 rfl ?_
      refine v_iadd (pc := 745) hR dL_law_745 ?_
      refine v_chk (fun hc153 => ?_)
      refine v_sld (pc := 746) hR hc153.1 hc153.2 dL_law_746 ?_
      refine v_aload_n (pc := 747) hR 0 dL_law_747 rfl rfl ?_
      refine v_iload_n (pc := 748) hR 3 dL_law_748 rfl rfl ?_
      refine v_iconst (pc := 749) hR dL_law_749 rfl ?_
      refine v_iadd (pc := 750) hR dL_law_750 ?_
      refine v_chk (fun hc154 => ?_)
      refine v_sld (pc := 751) hR hc154.1 hc154.2 dL_law_751 ?_
      refine v_aload_n (pc := 752) hR 0 dL_law_752 rfl rfl ?_
      refine v_iload_n (pc := 753) hR 3 dL_law_753 rfl rfl ?_
      refine v_iconst (pc := 754) hR dL_law_754 rfl ?_
      refine v_iadd (pc := 755) hR dL_law_755 ?_
      refine v_chk (fun hc155 => ?_)
      refine v_sld (pc := 756) hR hc155.1 hc155.2 dL_law_756 ?_
      refine v_callm1 (pc := 757) hR (As := [(0, (jsx xs ((w32 (i + 1))))), (0, (jsx xs ((w32 (i + 2))))), (0, (jsx xs ((w32 (i + 3)))))]) (st := [(0, r151)]) jm_X12_ahead jl_RL_101 (c_m_ahead N ((jsx xs ((w32 (i + 1))))) ((jsx xs ((w32 (i + 2))))) ((jsx xs ((w32 (i + 3))))) Y) (fun v hv => by simp only [List.mem_cons, List.not_mem_nil, or_false] at hv; rcases hv with rfl | rfl | rfl <;> rfl) rfl (by decide) (by decide) rfl (Nat.le_of_ble_eq_true rfl) dL_law_757 (fun r156 M157 => ?_)
      refine v_icmpeq (pc := 760) (tgt := 1230) hR dL_law_760 (by decide) ?_ ?_
      · refine v_iinc (pc := 1230) hR (j := 3) (lv' := [(3, 0, (w32 (i + 6))), (0, 4, (b0 : Int)), (1, 4, (gX.2.2 : Int)), (2, 4, (gM.2.2 : Int))]) dL_law_1230 rfl (by decide) rfl ?_
        refine v_goto (pc := 1233) (tgt := 18) hR dL_law_1233 (by decide) ?_
        refine v_pick (pc := 18) (lv' := [(0, 4, (b0 : Int)), (1, 4, (gX.2.2 : Int)), (2, 4, (gM.2.2 : Int)), (3, 0, (w32 (i + 6)))]) hR [1, 2, 3, 0] rfl ?_
        exact hh ((w32 (i + 6)), M152, M157)
      · exact v_iconst (pc := 763) hR dL_law_763 rfl (v_ret0 hR)
    refine v_tsw (pc := 33) (tgt := 765) (j := 21) (y := 21) hR dL_law_33 rfl rfl (by decide) (by decide) ?_ (fun hs158 => ?_)
    · unfold law_C21
      refine v_aload_n (pc := 765) hR 1 dL_law_765 rfl rfl ?_
      refine v_aload_n (pc := 766) hR 0 dL_law_766 rfl rfl ?_
      refine v_iload_n (pc := 767) hR 3 dL_law_767 rfl rfl ?_
      refine v_iconst (pc := 768) hR dL_law_768 rfl ?_
      refine v_iadd (pc := 769) hR dL_law_769 ?_
      refine v_chk (fun hc159 => ?_)
      refine v_sld (pc := 770) hR hc159.1 hc159.2 dL_law_770 ?_
      refine v_callx1 (pc := 771) hR (As := [(0, (jsx xs ((w32 (i + 1)))))]) (st := []) jm_X11_dry jl_RL_102 (c_x_dry N ((jsx xs ((w32 (i + 1))))) X) (fun v hv => by simp only [List.mem_cons, List.not_mem_nil, or_false] at hv; rcases hv with rfl <;> rfl) rfl (by decide) (by decide) rfl (Nat.le_of_ble_eq_true rfl) dL_law_771 (fun r160 M161 => ?_)
      refine v_aload_n (pc := 774) hR 2 dL_law_774 rfl rfl ?_
      refine v_aload_n (pc := 775) hR 0 dL_law_775 rfl rfl ?_
      refine v_iload_n (pc := 776) hR 3 dL_law_776 rfl rfl ?_
      refine v_iconst (pc := 777) hR dL_law_777 rfl ?_
      refine v_iadd (pc := 778) hR dL_law_778 ?_
      refine v_chk (fun hc162 => ?_)
      refine v_sld (pc := 779) hR hc162.1 hc162.2 dL_law_779 ?_
      refine v_callm1 (pc := 780) hR (As := [(0, (jsx xs ((w32 (i + 1)))))]) (st := [(0, r160)]) jm_X12_dry jl_RL_105 (c_m_dry N ((jsx xs ((w32 (i + 1))))) Y) (fun v hv => by simp only [List.mem_cons, List.not_mem_nil, or_false] at hv; rcases hv with rfl <;> rfl) rfl (by decide) (by decide) rfl (Nat.le_of_ble_eq_true rfl) dL_law_780 (fun r163 M164 => ?_)
      refine v_icmpeq (pc := 783) (tgt := 1230) hR dL_law_783 (by decide) ?_ ?_
      · refine v_iinc (pc := 1230) hR (j := 3) (lv' := [(3, 0, (w32 (i + 6))), (0, 4, (b0 : Int)), (1, 4, (gX.2.2 : Int)), (2, 4, (gM.2.2 : Int))]) dL_law_1230 rfl (by decide) rfl ?_
        refine v_goto (pc := 1233) (tgt := 18) hR dL_law_1233 (by decide) ?_
        refine v_pick (pc := 18) (lv' := [(0, 4, (b0 : Int)), (1, 4, (gX.2.2 : Int)), (2, 4, (gM.2.2 : Int)), (3, 0, (w32 (i + 6)))]) hR [1, 2, 3, 0] rfl ?_
        exact hh ((w32 (i + 6)), M161, M164)
      · exact v_iconst (pc := 786) hR dL_law_786 rfl (v_ret0 hR)
    refine v_tsw (pc := 33) (tgt := 788) (j := 22) (y := 22) hR dL_law_33 rfl rfl (by decide) (by decide) ?_ (fun hs165 => ?_)
    · unfold law_C22
      refine v_aload_n (pc := 788) hR 1 dL_law_788 rfl rfl ?_
      refine v_callx1 (pc := 789) hR (As := []) (st := []) jm_X11_home jl_RL_106 (c_x_home N  X) (fun v hv => by cases hv) rfl (by decide) (by decide) rfl (Nat.le_of_ble_eq_true rfl) dL_law_789 (fun r166 M167 => ?_)
      refine v_aload_n (pc := 792) hR 2 dL_law_792 rfl rfl ?_
      refine v_callm1 (pc := 793) hR (As := []) (st := [(0, r166)]) jm_X12_home jl_RL_109 (c_m_home N  Y) (fun v hv => by cases hv) rfl (by decide) (by decide) rfl (Nat.le_of_ble_eq_true rfl) dL_law_793 (fun r168 M169 => ?_)
      refine v_icmpeq (pc := 796) (tgt := 1230) hR dL_law_796 (by decide) ?_ ?_
      · refine v_iinc (pc := 1230) hR (j := 3) (lv' := [(3, 0, (w32 (i + 6))), (0, 4, (b0 : Int)), (1, 4, (gX.2.2 : Int)), (2, 4, (gM.2.2 : Int))]) dL_law_1230 rfl (by decide) rfl ?_
        refine v_goto (pc := 1233) (tgt := 18) hR dL_law_1233 (by decide) ?_
        refine v_pick (pc := 18) (lv' := [(0, 4, (b0 : Int)), (1, 4, (gX.2.2 : Int)), (2, 4, (gM.2.2 : Int)), (3, 0, (w32 (i + 6)))]) hR [1, 2, 3, 0] rfl ?_
        exact hh ((w32 (i + 6)), M167, M169)
      · exact v_iconst (pc := 799) hR dL_law_799 rfl (v_ret0 hR)
    refine v_tsw (pc := 33) (tgt := 801) (j := 23) (y := 23) hR dL_law_33 rfl rfl (by decide) (by decide) ?_ (fun hs170 => ?_)
    · unfold law_C23
      refine v_aload_n (pc := 801) hR 1 dL_law_801 rfl rfl ?_
      refine v_aload_n (pc := 802) hR 0 dL_law_802 rfl rfl ?_
      refine v_iload_n (pc := 803) hR 3 dL_law_803 rfl rfl ?_
      refine v_iconst (pc := 804) hR dL_law_804 rfl ?_
      refine v_iadd (pc := 805) hR dL_law_805 ?_
      refine v_chk (fun hc171 => ?_)
      refine v_sld (pc := 806) hR hc171.1 hc171.2 dL_law_806 ?_
      refine v_aload_n (pc := 807) hR 0 dL_law_807 rfl rfl ?_
      refine v_iload_n (pc := 808) hR 3 dL_law_808 rfl rfl ?_
      refine v_iconst (pc := 809) hR dL_law_809 rfl ?_
      refine v_iadd (pc := 810) hR dL_law_810 ?_
      refine v_chk (fun hc172 => ?_)
      refine v_sld (pc := 811) hR hc172.1 hc172.2 dL_law_811 ?_
      refine v_callx1 (pc := 812) hR (As := [(0, (jsx xs ((w32 (i + 1))))), (0, (jsx xs ((w32 (i + 2)))))]) (st := []) jm_X11_heir jl_RL_110 (c_x_heir N ((jsx xs ((w32 (i + 1))))) ((jsx xs ((w32 (i + 2))))) X) (fun v hv => by simp only [List.mem_cons, List.not_mem_nil, or_false] at hv; rcases hv with rfl | rfl <;> rfl) rfl (by decide) (by decide) rfl (Nat.le_of_ble_eq_true rfl) dL_law_812 (fun r173 M174 => ?_)
      refine v_aload_n (pc := 815) hR 2 dL_law_815 rfl rfl ?_
      refine v_aload_n (pc := 816) hR 0 dL_law_816 rfl rfl ?_
      refine v_iload_n (pc := 817) hR 3 dL_law_817 rfl rfl ?_
      refine v_iconst (pc := 818) hR dL_law_818 rfl ?_
      refine v_iadd (pc := 819) hR dL_law_819 ?_
      refine v_chk (fun hc175 => ?_)
      refine v_sld (pc := 820) hR hc175.1 hc175.2 dL_law_820 ?_
      refine v_aload_n (pc := 821) hR 0 dL_law_821 rfl rfl ?_
      refine v_iload_n (pc := 822) hR 3 dL_law_822 rfl rfl ?_
      refine v_iconst (pc := 823) hR dL_law_823 rfl ?_
      refine v_iadd (pc := 824) hR dL_law_824 ?_
      refine v_chk (fun hc176 => ?_)
      refine v_sld (pc := 825) hR hc176.1 hc176.2 dL_law_825 ?_
      refine v_callm1 (pc := 826) hR (As := [(0, (jsx xs ((w32 (i + 1))))), (0, (jsx xs ((w32 (i + 2)))))]) (st := [(0, r173)]) jm_X12_heir jl_RL_113 (c_m_heir N ((jsx xs ((w32 (i + 1))))) ((jsx xs ((w32 (i + 2))))) Y) (fun v hv => by simp only [List.mem_cons, List.not_mem_nil, or_false] at hv; rcases hv with rfl | rfl <;> rfl) rfl (by decide) (by decide) rfl (Nat.le_of_ble_eq_true rfl) dL_law_826 (fun r177 M178 => ?_)
      refine v_icmpeq (pc := 829) (tgt := 1230) hR dL_law_829 (by decide) ?_ ?_
      · refine v_iinc (pc := 1230) hR (j := 3) (lv' := [(3, 0, (w32 (i + 6))), (0, 4, (b0 : Int)), (1, 4, (gX.2.2 : Int)), (2, 4, (gM.2.2 : Int))]) dL_law_1230 rfl (by decide) rfl ?_
        refine v_goto (pc := 1233) (tgt := 18) hR dL_law_1233 (by decide) ?_
        refine v_pick (pc := 18) (lv' := [(0, 4, (b0 : Int)), (1, 4, (gX.2.2 : Int)), (2, 4, (gM.2.2 : Int)), (3, 0, (w32 (i + 6)))]) hR [1, 2, 3, 0] rfl ?_
        exact hh ((w32 (i + 6)), M174, M178)
      · exact v_iconst (pc := 832) hR dL_law_832 rfl (v_ret0 hR)
    refine v_tsw (pc := 33) (tgt := 834) (j := 24) (y := 24) hR dL_law_33 rfl rfl (by decide) (by decide) ?_ (fun hs179 => ?_)
    · unfold law_C24
      refine v_aload_n (pc := 834) hR 1 dL_law_834 rfl rfl ?_
      refine v_aload_n (pc := 835) hR 0 dL_law_835 rfl rfl ?_
      refine v_iload_n (pc := 836) hR 3 dL_law_836 rfl rfl ?_
      refine v_iconst (pc := 837) hR dL_law_837 rfl ?_
      refine v_iadd (pc := 838) hR dL_law_838 ?_
      refine v_chk (fun hc180 => ?_)
      refine v_sld (pc := 839) hR hc180.1 hc180.2 dL_law_839 ?_
      refine v_aload_n (pc := 840) hR 0 dL_law_840 rfl rfl ?_
      refine v_iload_n (pc := 841) hR 3 dL_law_841 rfl rfl ?_
      refine v_iconst (pc := 842) hR dL_law_842 rfl ?_
      refine v_iadd (pc := 843) hR dL_law_843 ?_
      refine v_chk (fun hc181 => ?_)
      refine v_sld (pc := 844) hR hc181.1 hc181.2 dL_law_844 ?_
      refine v_callx1 (pc := 845) hR (As := [(0, (jsx xs ((w32 (i + 1))))), (0, (jsx xs ((w32 (i + 2)))))]) (st := []) jm_X11_depths jl_RL_114 (c_x_depths N ((jsx xs ((w32 (i + 1))))) ((jsx xs ((w32 (i + 2))))) X) (fun v hv => by simp only [List.mem_cons, List.not_mem_nil, or_false] at hv; rcases hv with rfl | rfl <;> rfl) rfl (by decide) (by decide) rfl (Nat.le_of_ble_eq_true rfl) dL_law_845 (fun r182 M183 => ?_)
      refine v_aload_n (pc := 848) hR 2 dL_law_848 rfl rfl ?_
      refine v_aload_n (pc := 849) hR 0 dL_law_849 rfl rfl ?_
      refine v_iload_n (pc := 850) hR 3 dL_law_850 rfl rfl ?_
      refine v_iconst (pc := 851) hR dL_law_851 rfl ?_
      refine v_iadd (pc := 852) hR dL_law_852 ?_
      refine v_chk (fun hc184 => ?_)
      refine v_sld (pc := 853) hR hc184.1 hc184.2 dL_law_853 ?_
      refine v_aload_n (pc := 854) hR 0 dL_law_854 rfl rfl ?_
      refine v_iload_n (pc := 855) hR 3 dL_law_855 rfl rfl ?_
      refine v_iconst (pc := 856) hR dL_law_856 rfl ?_
      refine v_iadd (pc := 857) hR dL_law_857 ?_
      refine v_chk (fun hc185 => ?_)
      refine v_sld (pc := 858) hR hc185.1 hc185.2 dL_law_858 ?_
      refine v_callm1 (pc := 859) hR (As := [(0, (jsx xs ((w32 (i + 1))))), (0, (jsx xs ((w32 (i + 2)))))]) (st := [(0, r182)]) jm_X12_depths jl_RL_117 (c_m_depths N ((jsx xs ((w32 (i + 1))))) ((jsx xs ((w32 (i + 2))))) Y) (fun v hv => by simp only [List.mem_cons, List.not_mem_nil, or_false] at hv; rcases hv with rfl | rfl <;> rfl) rfl (by decide) (by decide) rfl (Nat.le_of_ble_eq_true rfl) dL_law_859 (fun r186 M187 => ?_)
      refine v_icmpeq (pc := 862) (tgt := 1230) hR dL_law_862 (by decide) ?_ ?_
      · refine v_iinc (pc := 1230) hR (j := 3) (lv' := [(3, 0, (w32 (i + 6))), (0, 4, (b0 : Int)), (1, 4, (gX.2.2 : Int)), (2, 4, (gM.2.2 : Int))]) dL_law_1230 rfl (by decide) rfl ?_
        refine v_goto (pc := 1233) (tgt := 18) hR dL_law_1233 (by decide) ?_
        refine v_pick (pc := 18) (lv' := [(0, 4, (b0 : Int)), (1, 4, (gX.2.2 : Int)), (2, 4, (gM.2.2 : Int)), (3, 0, (w32 (i + 6)))]) hR [1, 2, 3, 0] rfl ?_
        exact hh ((w32 (i + 6)), M183, M187)
      · exact v_iconst (pc := 865) hR dL_law_865 rfl (v_ret0 hR)
    refine v_tsw (pc := 33) (tgt := 867) (j := 25) (y := 25) hR dL_law_33 rfl rfl (by decide) (by decide) ?_ (fun hs188 => ?_)
    · unfold law_C25
      refine v_aload_n (pc := 867) hR 1 dL_law_867 rfl rfl ?_
      refine v_aload_n (pc := 868) hR 0 dL_law_868 rfl rfl ?_
      refine v_iload_n (pc := 869) hR 3 dL_law_869 rfl rfl ?_
      refine v_iconst (pc := 870) hR dL_law_870 rfl ?_
      refine v_iadd (pc := 871) hR dL_law_871 ?_
      refine v_chk (fun hc189 => ?_)
      refine v_sld (pc := 872) hR hc189.1 hc189.2 dL_law_872 ?_
      refine v_aload_n (pc := 873) hR 0 dL_law_873 rfl rfl ?_
      refine v_iload_n (pc := 874) hR 3 dL_law_874 rfl rfl ?_
      refine v_iconst (pc := 875) hR dL_law_875 rfl ?_
      refine v_iadd (pc := 876) hR dL_law_876 ?_
      refine v_chk (fun hc190 => ?_)
      refine v_sld (pc := 877) hR hc190.1 hc190.2 dL_law_877 ?_
      refine v_callx1 (pc := 878) hR (As := [(0, (jsx xs ((w32 (i + 1))))), (0, (jsx xs ((w32 (i + 2)))))]) (st := []) jm_X11_tastes jl_RL_118 (c_x_tastes N ((jsx xs ((w32 (i + 1))))) ((jsx xs ((w32 (i + 2))))) X) (fun v hv => by simp only [List.mem_cons, List.not_mem_nil, or_false] at hv; rcases hv with rfl | rfl <;> rfl) rfl (by decide) (by decide) rfl (Nat.le_of_ble_eq_true rfl) dL_law_878 (fun r191 M192 => ?_)
      refine v_aload_n (pc := 881) hR 2 dL_law_881 rfl rfl ?_
      refine v_aload_n (pc := 882) hR 0 dL_law_882 rfl rfl ?_
      refine v_iload_n (pc := 883) hR 3 dL_law_883 rfl rfl ?_
      refine v_iconst (pc := 884) hR dL_law_884 rfl ?_
      refine v_iadd (pc := 885) hR dL_law_885 ?_
      refine v_chk (fun hc193 => ?_)
      refine v_sld (pc := 886) hR hc193.1 hc193.2 dL_law_886 ?_
      refine v_aload_n (pc := 887) hR 0 dL_law_887 rfl rfl ?_
      refine v_iload_n (pc := 888) hR 3 dL_law_888 rfl rfl ?_
      refine v_iconst (pc := 889) hR dL_law_889 rfl ?_
      refine v_iadd (pc := 890) hR dL_law_890 ?_
      refine v_chk (fun hc194 => ?_)
      refine v_sld (pc := 891) hR hc194.1 hc194.2 dL_law_891 ?_
      refine v_callm1 (pc := 892) hR (As := [(0, (jsx xs ((w32 (i + 1))))), (0, (jsx xs ((w32 (i + 2)))))]) (st := [(0, r191)]) jm_X12_tastes jl_RL_121 (c_m_tastes N ((jsx xs ((w32 (i + 1))))) ((jsx xs ((w32 (i + 2))))) Y) (fun v hv => by simp only [List.mem_cons, List.not_mem_nil, or_false] at hv; rcases hv with rfl | rfl <;> rfl) rfl (by decide) (by decide) rfl (Nat.le_of_ble_eq_true rfl) dL_law_892 (fun r195 M196 => ?_)
      refine v_icmpeq (pc := 895) (tgt := 1230) hR dL_law_895 (by decide) ?_ ?_
      · refine v_iinc (pc := 1230) hR (j := 3) (lv' := [(3, 0, (w32 (i + 6))), (0, 4, (b0 : Int)), (1, 4, (gX.2.2 : Int)), (2, 4, (gM.2.2 : Int))]) dL_law_1230 rfl (by decide) rfl ?_
        refine v_goto (pc := 1233) (tgt := 18) hR dL_law_1233 (by decide) ?_
        refine v_pick (pc := 18) (lv' := [(0, 4, (b0 : Int)), (1, 4, (gX.2.2 : Int)), (2, 4, (gM.2.2 : Int)), (3, 0, (w32 (i + 6)))]) hR [1, 2, 3, 0] rfl ?_
        exact hh ((w32 (i + 6)), M192, M196)
      · exact v_iconst (pc := 898) hR dL_law_898 rfl (v_ret0 hR)
    refine v_tsw (pc := 33) (tgt := 900) (j := 26) (y := 26) hR dL_law_33 rfl rfl (by decide) (by decide) ?_ (fun hs197 => ?_)
    · unfold law_C26
      refine v_aload_n (pc := 900) hR 1 dL_law_900 rfl rfl ?_
      refine v_aload_n (pc := 901) hR 0 dL_law_901 rfl rfl ?_
      refine v_iload_n (pc := 902) hR 3 dL_law_902 rfl rfl ?_
      refine v_iconst (pc := 903) hR dL_law_903 rfl ?_
      refine v_iadd (pc := 904) hR dL_law_904 ?_
      refine v_chk (fun hc198 => ?_)
      refine v_sld (pc := 905) hR hc198.1 hc198.2 dL_law_905 ?_
      refine v_aload_n (pc := 906) hR 0 dL_law_906 rfl rfl ?_
      refine v_iload_n (pc := 907) hR 3 dL_law_907 rfl rfl ?_
      refine v_iconst (pc := 908) hR dL_law_908 rfl ?_
      refine v_iadd (pc := 909) hR dL_law_909 ?_
      refine v_chk (fun hc199 => ?_)
      refine v_sld (pc := 910) hR hc199.1 hc199.2 dL_law_910 ?_
      refine v_aload_n (pc := 911) hR 0 dL_law_911 rfl rfl ?_
      refine v_iload_n (pc := 912) hR 3 dL_law_912 rfl rfl ?_
      refine v_iconst (pc := 913) hR dL_law_913 rfl ?_
      refine v_iadd (pc := 914) hR dL_law_914 ?_
      refine v_chk (fun hc200 => ?_)
      refine v_sld (pc := 915) hR hc200.1 hc200.2 dL_law_915 ?_
      refine v_aload_n (pc := 916) hR 0 dL_law_916 rfl rfl ?_
      refine v_iload_n (pc := 917) hR 3 dL_law_917 rfl rfl ?_
      refine v_iconst (pc := 918) hR dL_law_918 rfl ?_
      refine v_iadd (pc := 919) hR dL_law_919 ?_
      refine v_chk (fun hc201 => ?_)
      refine v_sld (pc := 920) hR hc201.1 hc201.2 dL_law_920 ?_
      refine v_callx1 (pc := 921) hR (As := [(0, (jsx xs ((w32 (i + 1))))), (0, (jsx xs ((w32 (i + 2))))), (0, (jsx xs ((w32 (i + 3))))), (0, (jsx xs ((w32 (i + 4)))))]) (st := []) jm_X11_rests jl_RL_122 (c_x_rests N ((jsx xs ((w32 (i + 1))))) ((jsx xs ((w32 (i + 2))))) ((jsx xs ((w32 (i + 3))))) ((jsx xs ((w32 (i + 4))))) X) (fun v hv => by simp only [List.mem_cons, List.not_mem_nil, or_false] at hv; rcases hv with rfl | rfl | rfl | rfl <;> rfl) rfl (by decide) (by decide) rfl (Nat.le_of_ble_eq_true rfl) dL_law_921 (fun r202 M203 => ?_)
      refine v_aload_n (pc := 924) hR 2 dL_law_924 rfl rfl ?_
      refine v_aload_n (pc := 925) hR 0 dL_law_925 rfl rfl ?_
      refine v_iload_n (pc := 926) hR 3 dL_law_926 rfl rfl ?_
      refine v_iconst (pc := 927) hR dL_law_927 rfl ?_
      refine v_iadd (pc := 928) hR dL_law_928 ?_
      refine v_chk (fun hc204 => ?_)
      refine v_sld (pc := 929) hR hc204.1 hc204.2 dL_law_929 ?_
      refine v_aload_n (pc := 930) hR 0 dL_law_930 rfl rfl ?_
      refine v_iload_n (pc := 931) hR 3 dL_law_931 rfl rfl ?_
      refine v_iconst (pc := 932) hR dL_law_932 rfl ?_
      refine v_iadd (pc := 933) hR dL_law_933 ?_
      refine v_chk (fun hc205 => ?_)
      refine v_sld (pc := 934) hR hc205.1 hc205.2 dL_law_934 ?_
      refine v_aload_n (pc := 935) hR 0 dL_law_935 rfl rfl ?_
      refine v_iload_n (pc := 936) hR 3 dL_law_936 rfl rfl ?_
      refine v_iconst (pc := 937) hR dL_law_937 rfl ?_
      refine v_iadd (pc := 938) hR dL_law_938 ?_
      refine v_chk (fun hc206 => ?_)
      refine v_sld (pc := 939) hR hc206.1 hc206.2 dL_law_939 ?_
      refine v_aload_n (pc := 940) hR 0 dL_law_940 rfl rfl ?_
      refine v_iload_n (pc := 941) hR 3 dL_law_941 rfl rfl ?_
      refine v_iconst (pc := 942) hR dL_law_942 rfl ?_
      refine v_iadd (pc := 943) hR dL_law_943 ?_
      refine v_chk (fun hc207 => ?_)
      refine v_sld (pc := 944) hR hc207.1 hc207.2 dL_law_944 ?_
      refine v_callm1 (pc := 945) hR (As := [(0, (jsx xs ((w32 (i + 1))))), (0, (jsx xs ((w32 (i + 2))))), (0, (jsx xs ((w32 (i + 3))))), (0, (jsx xs ((w32 (i + 4)))))]) (st := [(0, r202)]) jm_X12_rests jl_RL_126 (c_m_rests N ((jsx xs ((w32 (i + 1))))) ((jsx xs ((w32 (i + 2))))) ((jsx xs ((w32 (i + 3))))) ((jsx xs ((w32 (i + 4))))) Y) (fun v hv => by simp only [List.mem_cons, List.not_mem_nil, or_false] at hv; rcases hv with rfl | rfl | rfl | rfl <;> rfl) rfl (by decide) (by decide) rfl (Nat.le_of_ble_eq_true rfl) dL_law_945 (fun r208 M209 => ?_)
      refine v_icmpeq (pc := 948) (tgt := 1230) hR dL_law_948 (by decide) ?_ ?_
      · refine v_iinc (pc := 1230) hR (j := 3) (lv' := [(3, 0, (w32 (i + 6))), (0, 4, (b0 : Int)), (1, 4, (gX.2.2 : Int)), (2, 4, (gM.2.2 : Int))]) dL_law_1230 rfl (by decide) rfl ?_
        refine v_goto (pc := 1233) (tgt := 18) hR dL_law_1233 (by decide) ?_
        refine v_pick (pc := 18) (lv' := [(0, 4, (b0 : Int)), (1, 4, (gX.2.2 : Int)), (2, 4, (gM.2.2 : Int)), (3, 0, (w32 (i + 6)))]) hR [1, 2, 3, 0] rfl ?_
        exact hh ((w32 (i + 6)), M203, M209)
      · exact v_iconst (pc := 951) hR dL_law_951 rfl (v_ret0 hR)
    refine v_tsw (pc := 33) (tgt := 953) (j := 27) (y := 27) hR dL_law_33 rfl rfl (by decide) (by decide) ?_ (fun hs210 => ?_)
    · unfold law_C27
      refine v_aload_n (pc := 953) hR 1 dL_law_953 rfl rfl ?_
      refine v_aload_n (pc := 954) hR 0 dL_law_954 rfl rfl ?_
      refine v_iload_n (pc := 955) hR 3 dL_law_955 rfl rfl ?_
      refine v_iconst (pc := 956) hR dL_law_956 rfl ?_
      refine v_iadd (pc := 957) hR dL_law_957 ?_
      refine v_chk (fun hc211 => ?_)
      refine v_sld (pc := 958) hR hc211.1 hc211.2 dL_law_958 ?_
      refine v_aload_n (pc := 959) hR 0 dL_law_959 rfl rfl ?_
      refine v_iload_n (pc := 960) hR 3 dL_law_960 rfl rfl ?_
      refine v_iconst (pc := 961) hR dL_law_961 rfl ?_
      refine v_iadd (pc := 962) hR dL_law_962 ?_
      refine v_chk (fun hc212 => ?_)
      refine v_sld (pc := 963) hR hc212.1 hc212.2 dL_law_963 ?_
      refine v_callxp (pc := 964) hR (As := [(0, (jsx xs ((w32 (i + 1))))), (0, (jsx xs ((w32 (i + 2)))))]) (st := []) jm_X11_pence jl_RL_127 (c_x_pence N ((jsx xs ((w32 (i + 1))))) ((jsx xs ((w32 (i + 2))))) X) (fun v hv => by simp only [List.mem_cons, List.not_mem_nil, or_false] at hv; rcases hv with rfl | rfl <;> rfl) rfl (by decide) (by decide) rfl (Nat.le_of_ble_eq_true rfl) dL_law_964 (fun r213 => ?_)
      refine v_aload_n (pc := 967) hR 2 dL_law_967 rfl rfl ?_
      refine v_aload_n (pc := 968) hR 0 dL_law_968 rfl rfl ?_
      refine v_iload_n (pc := 969) hR 3 dL_law_969 rfl rfl ?_
      refine v_iconst (pc := 970) hR dL_law_970 rfl ?_
      refine v_iadd (pc := 971) hR dL_law_971 ?_
      refine v_chk (fun hc214 => ?_)
      refine v_sld (pc := 972) hR hc214.1 hc214.2 dL_law_972 ?_
      refine v_aload_n (pc := 973) hR 0 dL_law_973 rfl rfl ?_
      refine v_iload_n (pc := 974) hR 3 dL_law_974 rfl rfl ?_
      refine v_iconst (pc := 975) hR dL_law_975 rfl ?_
      refine v_iadd (pc := 976) hR dL_law_976 ?_
      refine v_chk (fun hc215 => ?_)
      refine v_sld (pc := 977) hR hc215.1 hc215.2 dL_law_977 ?_
      refine v_callmp (pc := 978) hR (As := [(0, (jsx xs ((w32 (i + 1))))), (0, (jsx xs ((w32 (i + 2)))))]) (st := [(0, r213)]) jm_X12_pence jl_RL_130 (c_m_pence N ((jsx xs ((w32 (i + 1))))) ((jsx xs ((w32 (i + 2))))) Y) (fun v hv => by simp only [List.mem_cons, List.not_mem_nil, or_false] at hv; rcases hv with rfl | rfl <;> rfl) rfl (by decide) (by decide) rfl (Nat.le_of_ble_eq_true rfl) dL_law_978 (fun r216 => ?_)
      refine v_icmpeq (pc := 981) (tgt := 1230) hR dL_law_981 (by decide) ?_ ?_
      · refine v_iinc (pc := 1230) hR (j := 3) (lv' := [(3, 0, (w32 (i + 6))), (0, 4, (b0 : Int)), (1, 4, (gX.2.2 : Int)), (2, 4, (gM.2.2 : Int))]) dL_law_1230 rfl (by decide) rfl ?_
        refine v_goto (pc := 1233) (tgt := 18) hR dL_law_1233 (by decide) ?_
        refine v_pick (pc := 18) (lv' := [(0, 4, (b0 : Int)), (1, 4, (gX.2.2 : Int)), (2, 4, (gM.2.2 : Int)), (3, 0, (w32 (i + 6)))]) hR [1, 2, 3, 0] rfl ?_
        exact hh ((w32 (i + 6)), X, Y)
      · exact v_iconst (pc := 984) hR dL_law_984 rfl (v_ret0 hR)
    refine v_tsw (pc := 33) (tgt := 986) (j := 28) (y := 28) hR dL_law_33 rfl rfl (by decide) (by decide) ?_ (fun hs217 => ?_)
    · unfold law_C28
      refine v_aload_n (pc := 986) hR 1 dL_law_986 rfl rfl ?_
      refine v_aload_n (pc := 987) hR 0 dL_law_987 rfl rfl ?_
      refine v_iload_n (pc := 988) hR 3 dL_law_988 rfl rfl ?_
      refine v_iconst (pc := 989) hR dL_law_989 rfl ?_
      refine v_iadd (pc := 990) hR dL_law_990 ?_
      refine v_chk (fun hc218 => ?_)
      refine v_sld (pc := 991) hR hc218.1 hc218.2 dL_law_991 ?_
      refine v_aload_n (pc := 992) hR 0 dL_law_992 rfl rfl ?_
      refine v_iload_n (pc := 993) hR 3 dL_law_993 rfl rfl ?_
      refine v_iconst (pc := 994) hR dL_law_994 rfl ?_
      refine v_iadd (pc := 995) hR dL_law_995 ?_
      refine v_chk (fun hc219 => ?_)
      refine v_sld (pc := 996) hR hc219.1 hc219.2 dL_law_996 ?_
      refine v_aload_n (pc := 997) hR 0 dL_law_997 rfl rfl ?_
      refine v_iload_n (pc := 998) hR 3 dL_law_998 rfl rfl ?_
      refine v_iconst (pc := 999) hR dL_law_999 rfl ?_
      refine v_iadd (pc := 1000) hR dL_law_1000 ?_
      refine v_chk (fun hc220 => ?_)
      refine v_sld (pc := 1001) hR hc220.1 hc220.2 dL_law_1001 ?_
      refine v_callx1 (pc := 1002) hR (As := [(0, (jsx xs ((w32 (i + 1))))), (0, (jsx xs ((w32 (i + 2))))), (0, (jsx xs ((w32 (i + 3)))))]) (st := []) jm_X11_note jl_RL_131 (c_x_note N ((jsx xs ((w32 (i + 1))))) ((jsx xs ((w32 (i + 2))))) ((jsx xs ((w32 (i + 3))))) X) (fun v hv => by simp only [List.mem_cons, List.not_mem_nil, or_false] at hv; rcases hv with rfl | rfl | rfl <;> rfl) rfl (by decide) (by decide) rfl (Nat.le_of_ble_eq_true rfl) dL_law_1002 (fun r221 M222 => ?_)
      refine v_aload_n (pc := 1005) hR 2 dL_law_1005 rfl rfl ?_
      refine v_aload_n (pc := 1006) hR 0 dL_law_1006 rfl rfl ?_
      refine v_iload_n (pc := 1007) hR 3 dL_law_1007 rfl rfl ?_
      refine v_iconst (pc := 1008) hR dL_law_1008 rfl ?_
      refine v_iadd (pc := 1009) hR dL_law_1009 ?_
      refine v_chk (fun hc223 => ?_)
      refine v_sld (pc := 1010) hR hc223.1 hc223.2 dL_law_1010 ?_
      refine v_aload_n (pc := 1011) hR 0 dL_law_1011 rfl rfl ?_
      refine v_iload_n (pc := 1012) hR 3 dL_law_1012 rfl rfl ?_
      refine v_iconst (pc := 1013) hR dL_law_1013 rfl ?_
      refine v_iadd (pc := 1014) hR dL_law_1014 ?_
      refine v_chk (fun hc224 => ?_)
      refine v_sld (pc := 1015) hR hc224.1 hc224.2 dL_law_1015 ?_
      refine v_aload_n (pc := 1016) hR 0 dL_law_1016 rfl rfl ?_
      refine v_iload_n (pc := 1017) hR 3 dL_law_1017 rfl rfl ?_
      refine v_iconst (pc := 1018) hR dL_law_1018 rfl ?_
      refine v_iadd (pc := 1019) hR dL_law_1019 ?_
      refine v_chk (fun hc225 => ?_)
      refine v_sld (pc := 1020) hR hc225.1 hc225.2 dL_law_1020 ?_
      refine v_callm1 (pc := 1021) hR (As := [(0, (jsx xs ((w32 (i + 1))))), (0, (jsx xs ((w32 (i + 2))))), (0, (jsx xs ((w32 (i + 3)))))]) (st := [(0, r221)]) jm_X12_note jl_RL_134 (c_m_note N ((jsx xs ((w32 (i + 1))))) ((jsx xs ((w32 (i + 2))))) ((jsx xs ((w32 (i + 3))))) Y) (fun v hv => by simp only [List.mem_cons, List.not_mem_nil, or_false] at hv; rcases hv with rfl | rfl | rfl <;> rfl) rfl (by decide) (by decide) rfl (Nat.le_of_ble_eq_true rfl) dL_law_1021 (fun r226 M227 => ?_)
      refine v_icmpeq (pc := 1024) (tgt := 1230) hR dL_law_1024 (by decide) ?_ ?_
      · refine v_iinc (pc := 1230) hR (j := 3) (lv' := [(3, 0, (w32 (i + 6))), (0, 4, (b0 : Int)), (1, 4, (gX.2.2 : Int)), (2, 4, (gM.2.2 : Int))]) dL_law_1230 rfl (by decide) rfl ?_
        refine v_goto (pc := 1233) (tgt := 18) hR dL_law_1233 (by decide) ?_
        refine v_pick (pc := 18) (lv' := [(0, 4, (b0 : Int)), (1, 4, (gX.2.2 : Int)), (2, 4, (gM.2.2 : Int)), (3, 0, (w32 (i + 6)))]) hR [1, 2, 3, 0] rfl ?_
        exact hh ((w32 (i + 6)), M222, M227)
      · exact v_iconst (pc := 1027) hR dL_law_1027 rfl (v_ret0 hR)
    refine v_tsw (pc := 33) (tgt := 1029) (j := 29) (y := 29) hR dL_law_33 rfl rfl (by decide) (by decide) ?_ (fun hs228 => ?_)
    · unfold law_C29
      refine v_aload_n (pc := 1029) hR 1 dL_law_1029 rfl rfl ?_
      refine v_aload_n (pc := 1030) hR 0 dL_law_1030 rfl rfl ?_
      refine v_iload_n (pc := 1031) hR 3 dL_law_1031 rfl rfl ?_
      refine v_iconst (pc := 1032) hR dL_law_1032 rfl ?_
      refine v_iadd (pc := 1033) hR dL_law_1033 ?_
      refine v_chk (fun hc229 => ?_)
      refine v_sld (pc := 1034) hR hc229.1 hc229.2 dL_law_1034 ?_
      refine v_callx1 (pc := 1035) hR (As := [(0, (jsx xs ((w32 (i + 1)))))]) (st := []) jm_X11_ruled jl_RL_135 (c_x_ruled N ((jsx xs ((w32 (i + 1))))) X) (fun v hv => by simp only [List.mem_cons, List.not_mem_nil, or_false] at hv; rcases hv with rfl <;> rfl) rfl (by decide) (by decide) rfl (Nat.le_of_ble_eq_true rfl) dL_law_1035 (fun r230 M231 => ?_)
      refine v_aload_n (pc := 1038) hR 2 dL_law_1038 rfl rfl ?_
      refine v_aload_n (pc := 1039) hR 0 dL_law_1039 rfl rfl ?_
      refine v_iload_n (pc := 1040) hR 3 dL_law_1040 rfl rfl ?_
      refine v_iconst (pc := 1041) hR dL_law_1041 rfl ?_
      refine v_iadd (pc := 1042) hR dL_law_1042 ?_
      refine v_chk (fun hc232 => ?_)
      refine v_sld (pc := 1043) hR hc232.1 hc232.2 dL_law_1043 ?_
      refine v_callm1 (pc := 1044) hR (As := [(0, (jsx xs ((w32 (i + 1)))))]) (st := [(0, r230)]) jm_X12_ruled jl_RL_138 (c_m_ruled N ((jsx xs ((w32 (i + 1))))) Y) (fun v hv => by simp only [List.mem_cons, List.not_mem_nil, or_false] at hv; rcases hv with rfl <;> rfl) rfl (by decide) (by decide) rfl (Nat.le_of_ble_eq_true rfl) dL_law_1044 (fun r233 M234 => ?_)
      refine v_icmpeq (pc := 1047) (tgt := 1230) hR dL_law_1047 (by decide) ?_ ?_
      · refine v_iinc (pc := 1230) hR (j := 3) (lv' := [(3, 0, (w32 (i + 6))), (0, 4, (b0 : Int)), (1, 4, (gX.2.2 : Int)), (2, 4, (gM.2.2 : Int))]) dL_law_1230 rfl (by decide) rfl ?_
        refine v_goto (pc := 1233) (tgt := 18) hR dL_law_1233 (by decide) ?_
        refine v_pick (pc := 18) (lv' := [(0, 4, (b0 : Int)), (1, 4, (gX.2.2 : Int)), (2, 4, (gM.2.2 : Int)), (3, 0, (w32 (i + 6)))]) hR [1, 2, 3, 0] rfl ?_
        exact hh ((w32 (i + 6)), M231, M234)
      · exact v_iconst (pc := 1050) hR dL_law_1050 rfl (v_ret0 hR)
    refine v_tsw (pc := 33) (tgt := 1052) (j := 30) (y := 30) hR dL_law_33 rfl rfl (by decide) (by decide) ?_ (fun hs235 => ?_)
    · unfold law_C30
      refine v_aload_n (pc := 1052) hR 1 dL_law_1052 rfl rfl ?_
      refine v_aload_n (pc := 1053) hR 0 dL_law_1053 rfl rfl ?_
      refine v_iload_n (pc := 1054) hR 3 dL_law_1054 rfl rfl ?_
      refine v_iconst (pc := 1055) hR dL_law_1055 rfl ?_
      refine v_iadd (pc := 1056) hR dL_law_1056 ?_
      refine v_chk (fun hc236 => ?_)
      refine v_sld (pc := 1057) hR hc236.1 hc236.2 dL_law_1057 ?_
      refine v_aload_n (pc := 1058) hR 0 dL_law_1058 rfl rfl ?_
      refine v_iload_n (pc := 1059) hR 3 dL_law_1059 rfl rfl ?_
      refine v_iconst (pc := 1060) hR dL_law_1060 rfl ?_
      refine v_iadd (pc := 1061) hR dL_law_1061 ?_
      refine v_chk (fun hc237 => ?_)
      refine v_sld (pc := 1062) hR hc237.1 hc237.2 dL_law_1062 ?_
      refine v_callx1 (pc := 1063) hR (As := [(0, (jsx xs ((w32 (i + 1))))), (0, (jsx xs ((w32 (i + 2)))))]) (st := []) jm_X11_look jl_RL_139 (c_x_look N ((jsx xs ((w32 (i + 1))))) ((jsx xs ((w32 (i + 2))))) X) (fun v hv => by simp only [List.mem_cons, List.not_mem_nil, or_false] at hv; rcases hv with rfl | rfl <;> rfl) rfl (by decide) (by decide) rfl (Nat.le_of_ble_eq_true rfl) dL_law_1063 (fun r238 M239 => ?_)
      refine v_aload_n (pc := 1066) hR 2 dL_law_1066 rfl rfl ?_
      refine v_aload_n (pc := 1067) hR 0 dL_law_1067 rfl rfl ?_
      refine v_iload_n (pc := 1068) hR 3 dL_law_1068 rfl rfl ?_
      refine v_iconst (pc := 1069) hR dL_law_1069 rfl ?_
      refine v_iadd (pc := 1070) hR dL_law_1070 ?_
      refine v_chk (fun hc240 => ?_)
      refine v_sld (pc := 1071) hR hc240.1 hc240.2 dL_law_1071 ?_
      refine v_aload_n (pc := 1072) hR 0 dL_law_1072 rfl rfl ?_
      refine v_iload_n (pc := 1073) hR 3 dL_law_1073 rfl rfl ?_
      refine v_iconst (pc := 1074) hR dL_law_1074 rfl ?_
      refine v_iadd (pc := 1075) hR dL_law_1075 ?_
      refine v_chk (fun hc241 => ?_)
      refine v_sld (pc := 1076) hR hc241.1 hc241.2 dL_law_1076 ?_
      refine v_callm1 (pc := 1077) hR (As := [(0, (jsx xs ((w32 (i + 1))))), (0, (jsx xs ((w32 (i + 2)))))]) (st := [(0, r238)]) jm_X12_look jl_RL_142 (c_m_look N ((jsx xs ((w32 (i + 1))))) ((jsx xs ((w32 (i + 2))))) Y) (fun v hv => by simp only [List.mem_cons, List.not_mem_nil, or_false] at hv; rcases hv with rfl | rfl <;> rfl) rfl (by decide) (by decide) rfl (Nat.le_of_ble_eq_true rfl) dL_law_1077 (fun r242 M243 => ?_)
      refine v_icmpeq (pc := 1080) (tgt := 1230) hR dL_law_1080 (by decide) ?_ ?_
      · refine v_iinc (pc := 1230) hR (j := 3) (lv' := [(3, 0, (w32 (i + 6))), (0, 4, (b0 : Int)), (1, 4, (gX.2.2 : Int)), (2, 4, (gM.2.2 : Int))]) dL_law_1230 rfl (by decide) rfl ?_
        refine v_goto (pc := 1233) (tgt := 18) hR dL_law_1233 (by decide) ?_
        refine v_pick (pc := 18) (lv' := [(0, 4, (b0 : Int)), (1, 4, (gX.2.2 : Int)), (2, 4, (gM.2.2 : Int)), (3, 0, (w32 (i + 6)))]) hR [1, 2, 3, 0] rfl ?_
        exact hh ((w32 (i + 6)), M239, M243)
      · exact v_iconst (pc := 1083) hR dL_law_1083 rfl (v_ret0 hR)
    refine v_tsw (pc := 33) (tgt := 1085) (j := 31) (y := 31) hR dL_law_33 rfl rfl (by decide) (by decide) ?_ (fun hs244 => ?_)
    · unfold law_C31
      refine v_aload_n (pc := 1085) hR 1 dL_law_1085 rfl rfl ?_
      refine v_aload_n (pc := 1086) hR 0 dL_law_1086 rfl rfl ?_
      refine v_iload_n (pc := 1087) hR 3 dL_law_1087 rfl rfl ?_
      refine v_iconst (pc := 1088) hR dL_law_1088 rfl ?_
      refine v_iadd (pc := 1089) hR dL_law_1089 ?_
      refine v_chk (fun hc245 => ?_)
      refine v_sld (pc := 1090) hR hc245.1 hc245.2 dL_law_1090 ?_
      refine v_callx1 (pc := 1091) hR (As := [(0, (jsx xs ((w32 (i + 1)))))]) (st := []) jm_X11_seed jl_RL_143 (c_x_seed N ((jsx xs ((w32 (i + 1))))) X) (fun v hv => by simp only [List.mem_cons, List.not_mem_nil, or_false] at hv; rcases hv with rfl <;> rfl) rfl (by decide) (by decide) rfl (Nat.le_of_ble_eq_true rfl) dL_law_1091 (fun r246 M247 => ?_)
      refine v_aload_n (pc := 1094) hR 2 dL_law_1094 rfl rfl ?_
      refine v_aload_n (pc := 1095) hR 0 dL_law_1095 rfl rfl ?_
      refine v_iload_n (pc := 1096) hR 3 dL_law_1096 rfl rfl ?_
      refine v_iconst (pc := 1097) hR dL_law_1097 rfl ?_
      refine v_iadd (pc := 1098) hR dL_law_1098 ?_
      refine v_chk (fun hc248 => ?_)
      refine v_sld (pc := 1099) hR hc248.1 hc248.2 dL_law_1099 ?_
      refine v_callm1 (pc := 1100) hR (As := [(0, (jsx xs ((w32 (i + 1)))))]) (st := [(0, r246)]) jm_X12_seed jl_RL_146 (c_m_seed N ((jsx xs ((w32 (i + 1))))) Y) (fun v hv => by simp only [List.mem_cons, List.not_mem_nil, or_false] at hv; rcases hv with rfl <;> rfl) rfl (by decide) (by decide) rfl (Nat.le_of_ble_eq_true rfl) dL_law_1100 (fun r249 M250 => ?_)
      refine v_icmpeq (pc := 1103) (tgt := 1230) hR dL_law_1103 (by decide) ?_ ?_
      · refine v_iinc (pc := 1230) hR (j := 3) (lv' := [(3, 0, (w32 (i + 6))), (0, 4, (b0 : Int)), (1, 4, (gX.2.2 : Int)), (2, 4, (gM.2.2 : Int))]) dL_law_1230 rfl (by decide) rfl ?_
        refine v_goto (pc := 1233) (tgt := 18) hR dL_law_1233 (by decide) ?_
        refine v_pick (pc := 18) (lv' := [(0, 4, (b0 : Int)), (1, 4, (gX.2.2 : Int)), (2, 4, (gM.2.2 : Int)), (3, 0, (w32 (i + 6)))]) hR [1, 2, 3, 0] rfl ?_
        exact hh ((w32 (i + 6)), M247, M250)
      · exact v_iconst (pc := 1106) hR dL_law_1106 rfl (v_ret0 hR)
    refine v_tsw (pc := 33) (tgt := 1108) (j := 32) (y := 32) hR dL_law_33 rfl rfl (by decide) (by decide) ?_ (fun hs251 => ?_)
    · unfold law_C32
      refine v_aload_n (pc := 1108) hR 1 dL_law_1108 rfl rfl ?_
      refine v_aload_n (pc := 1109) hR 0 dL_law_1109 rfl rfl ?_
      refine v_iload_n (pc := 1110) hR 3 dL_law_1110 rfl rfl ?_
      refine v_iconst (pc := 1111) hR dL_law_1111 rfl ?_
      refine v_iadd (pc := 1112) hR dL_law_1112 ?_
      refine v_chk (fun hc252 => ?_)
      refine v_sld (pc := 1113) hR hc252.1 hc252.2 dL_law_1113 ?_
      refine v_aload_n (pc := 1114) hR 0 dL_law_1114 rfl rfl ?_
      refine v_iload_n (pc := 1115) hR 3 dL_law_1115 rfl rfl ?_
      refine v_iconst (pc := 1116) hR dL_law_1116 rfl ?_
      refine v_iadd (pc := 1117) hR dL_law_1117 ?_
      refine v_chk (fun hc253 => ?_)
      refine v_sld (pc := 1118) hR hc253.1 hc253.2 dL_law_1118 ?_
      refine v_aload_n (pc := 1119) hR 0 dL_law_1119 rfl rfl ?_
      refine v_iload_n (pc := 1120) hR 3 dL_law_1120 rfl rfl ?_
      refine v_iconst (pc := 1121) hR dL_law_1121 rfl ?_
      refine v_iadd (pc := 1122) hR dL_law_1122 ?_
      refine v_chk (fun hc254 => ?_)
      refine v_sld (pc := 1123) hR hc254.1 hc254.2 dL_law_1123 ?_
      refine v_aload_n (pc := 1124) hR 0 dL_law_1124 rfl rfl ?_
      refine v_iload_n (pc := 1125) hR 3 dL_law_1125 rfl rfl ?_
      refine v_iconst (pc := 1126) hR dL_law_1126 rfl ?_
      refine v_iadd (pc := 1127) hR dL_law_1127 ?_
      refine v_chk (fun hc255 => ?_)
      refine v_sld (pc := 1128) hR hc255.1 hc255.2 dL_law_1128 ?_
      refine v_callx1 (pc := 1129) hR (As := [(0, (jsx xs ((w32 (i + 1))))), (0, (jsx xs ((w32 (i + 2))))), (0, (jsx xs ((w32 (i + 3))))), (0, (jsx xs ((w32 (i + 4)))))]) (st := []) jm_X11_droughts jl_RL_147 (c_x_droughts N ((jsx xs ((w32 (i + 1))))) ((jsx xs ((w32 (i + 2))))) ((jsx xs ((w32 (i + 3))))) ((jsx xs ((w32 (i + 4))))) X) (fun v hv => by simp only [List.mem_cons, List.not_mem_nil, or_false] at hv; rcases hv with rfl | rfl | rfl | rfl <;> rfl) rfl (by decide) (by decide) rfl (Nat.le_of_ble_eq_true rfl) dL_law_1129 (fun r256 M257 => ?_)
      refine v_aload_n (pc := 1132) hR 2 dL_law_1132 rfl rfl ?_
      refine v_aload_n (pc := 1133) hR 0 dL_law_1133 rfl rfl ?_
      refine v_iload_n (pc := 1134) hR 3 dL_law_1134 rfl rfl ?_
      refine v_iconst (pc := 1135) hR dL_law_1135 rfl ?_
      refine v_iadd (pc := 1136) hR dL_law_1136 ?_
      refine v_chk (fun hc258 => ?_)
      refine v_sld (pc := 1137) hR hc258.1 hc258.2 dL_law_1137 ?_
      refine v_aload_n (pc := 1138) hR 0 dL_law_1138 rfl rfl ?_
      refine v_iload_n (pc := 1139) hR 3 dL_law_1139 rfl rfl ?_
      refine v_iconst (pc := 1140) hR dL_law_1140 rfl ?_
      refine v_iadd (pc := 1141) hR dL_law_1141 ?_
      refine v_chk (fun hc259 => ?_)
      refine v_sld (pc := 1142) hR hc259.1 hc259.2 dL_law_1142 ?_
      refine v_aload_n (pc := 1143) hR 0 dL_law_1143 rfl rfl ?_
      refine v_iload_n (pc := 1144) hR 3 dL_law_1144 rfl rfl ?_
      refine v_iconst (pc := 1145) hR dL_law_1145 rfl ?_
      refine v_iadd (pc := 1146) hR dL_law_1146 ?_
      refine v_chk (fun hc260 => ?_)
      refine v_sld (pc := 1147) hR hc260.1 hc260.2 dL_law_1147 ?_
      refine v_aload_n (pc := 1148) hR 0 dL_law_1148 rfl rfl ?_
      refine v_iload_n (pc := 1149) hR 3 dL_law_1149 rfl rfl ?_
      refine v_iconst (pc := 1150) hR dL_law_1150 rfl ?_
      refine v_iadd (pc := 1151) hR dL_law_1151 ?_
      refine v_chk (fun hc261 => ?_)
      refine v_sld (pc := 1152) hR hc261.1 hc261.2 dL_law_1152 ?_
      refine v_callm1 (pc := 1153) hR (As := [(0, (jsx xs ((w32 (i + 1))))), (0, (jsx xs ((w32 (i + 2))))), (0, (jsx xs ((w32 (i + 3))))), (0, (jsx xs ((w32 (i + 4)))))]) (st := [(0, r256)]) jm_X12_droughts jl_RL_150 (c_m_droughts N ((jsx xs ((w32 (i + 1))))) ((jsx xs ((w32 (i + 2))))) ((jsx xs ((w32 (i + 3))))) ((jsx xs ((w32 (i + 4))))) Y) (fun v hv => by simp only [List.mem_cons, List.not_mem_nil, or_false] at hv; rcases hv with rfl | rfl | rfl | rfl <;> rfl) rfl (by decide) (by decide) rfl (Nat.le_of_ble_eq_true rfl) dL_law_1153 (fun r262 M263 => ?_)
      refine v_icmpeq (pc := 1156) (tgt := 1230) hR dL_law_1156 (by decide) ?_ ?_
      · refine v_iinc (pc := 1230) hR (j := 3) (lv' := [(3, 0, (w32 (i + 6))), (0, 4, (b0 : Int)), (1, 4, (gX.2.2 : Int)), (2, 4, (gM.2.2 : Int))]) dL_law_1230 rfl (by decide) rfl ?_
        refine v_goto (pc := 1233) (tgt := 18) hR dL_law_1233 (by decide) ?_
        refine v_pick (pc := 18) (lv' := [(0, 4, (b0 : Int)), (1, 4, (gX.2.2 : Int)), (2, 4, (gM.2.2 : Int)), (3, 0, (w32 (i + 6)))]) hR [1, 2, 3, 0] rfl ?_
        exact hh ((w32 (i + 6)), M257, M263)
      · exact v_iconst (pc := 1159) hR dL_law_1159 rfl (v_ret0 hR)
    refine v_tsw (pc := 33) (tgt := 1161) (j := 33) (y := 33) hR dL_law_33 rfl rfl (by decide) (by decide) ?_ (fun hs264 => ?_)
    · unfold law_C33
      refine v_aload_n (pc := 1161) hR 1 dL_law_1161 rfl rfl ?_
      refine v_aload_n (pc := 1162) hR 0 dL_law_1162 rfl rfl ?_
      refine v_iload_n (pc := 1163) hR 3 dL_law_1163 rfl rfl ?_
      refine v_iconst (pc := 1164) hR dL_law_1164 rfl ?_
      refine v_iadd (pc := 1165) hR dL_law_1165 ?_
      refine v_chk (fun hc265 => ?_)
      refine v_sld (pc := 1166) hR hc265.1 hc265.2 dL_law_1166 ?_
      refine v_callxp (pc := 1167) hR (As := [(0, (jsx xs ((w32 (i + 1)))))]) (st := []) jm_X11_count jl_RL_151 (c_x_count N ((jsx xs ((w32 (i + 1))))) X) (fun v hv => by simp only [List.mem_cons, List.not_mem_nil, or_false] at hv; rcases hv with rfl <;> rfl) rfl (by decide) (by decide) rfl (Nat.le_of_ble_eq_true rfl) dL_law_1167 (fun r266 => ?_)
      refine v_aload_n (pc := 1170) hR 2 dL_law_1170 rfl rfl ?_
      refine v_aload_n (pc := 1171) hR 0 dL_law_1171 rfl rfl ?_
      refine v_iload_n (pc := 1172) hR 3 dL_law_1172 rfl rfl ?_
      refine v_iconst (pc := 1173) hR dL_law_1173 rfl ?_
      refine v_iadd (pc := 1174) hR dL_law_1174 ?_
      refine v_chk (fun hc267 => ?_)
      refine v_sld (pc := 1175) hR hc267.1 hc267.2 dL_law_1175 ?_
      refine v_callmp (pc := 1176) hR (As := [(0, (jsx xs ((w32 (i + 1)))))]) (st := [(0, r266)]) jm_X12_count jl_RL_154 (c_m_count N ((jsx xs ((w32 (i + 1))))) Y) (fun v hv => by simp only [List.mem_cons, List.not_mem_nil, or_false] at hv; rcases hv with rfl <;> rfl) rfl (by decide) (by decide) rfl (Nat.le_of_ble_eq_true rfl) dL_law_1176 (fun r268 => ?_)
      refine v_icmpeq (pc := 1179) (tgt := 1230) hR dL_law_1179 (by decide) ?_ ?_
      · refine v_iinc (pc := 1230) hR (j := 3) (lv' := [(3, 0, (w32 (i + 6))), (0, 4, (b0 : Int)), (1, 4, (gX.2.2 : Int)), (2, 4, (gM.2.2 : Int))]) dL_law_1230 rfl (by decide) rfl ?_
        refine v_goto (pc := 1233) (tgt := 18) hR dL_law_1233 (by decide) ?_
        refine v_pick (pc := 18) (lv' := [(0, 4, (b0 : Int)), (1, 4, (gX.2.2 : Int)), (2, 4, (gM.2.2 : Int)), (3, 0, (w32 (i + 6)))]) hR [1, 2, 3, 0] rfl ?_
        exact hh ((w32 (i + 6)), X, Y)
      · exact v_iconst (pc := 1182) hR dL_law_1182 rfl (v_ret0 hR)
    refine v_tsw (pc := 33) (tgt := 1184) (j := 34) (y := 34) hR dL_law_33 rfl rfl (by decide) (by decide) ?_ (fun hs269 => ?_)
    · unfold law_C34
      refine v_aload_n (pc := 1184) hR 1 dL_law_1184 rfl rfl ?_
      refine v_aload_n (pc := 1185) hR 0 dL_law_1185 rfl rfl ?_
      refine v_iload_n (pc := 1186) hR 3 dL_law_1186 rfl rfl ?_
      refine v_iconst (pc := 1187) hR dL_law_1187 rfl ?_
      refine v_iadd (pc := 1188) hR dL_law_1188 ?_
      refine v_chk (fun hc270 => ?_)
      refine v_sld (pc := 1189) hR hc270.1 hc270.2 dL_law_1189 ?_
      refine v_callx1 (pc := 1190) hR (As := [(0, (jsx xs ((w32 (i + 1)))))]) (st := []) jm_X11_image jl_RL_155 (c_x_image N ((jsx xs ((w32 (i + 1))))) X) (fun v hv => by simp only [List.mem_cons, List.not_mem_nil, or_false] at hv; rcases hv with rfl <;> rfl) rfl (by decide) (by decide) rfl (Nat.le_of_ble_eq_true rfl) dL_law_1190 (fun r271 M272 => ?_)
      refine v_aload_n (pc := 1193) hR 2 dL_law_1193 rfl rfl ?_
      refine v_aload_n (pc := 1194) hR 0 dL_law_1194 rfl rfl ?_
      refine v_iload_n (pc := 1195) hR 3 dL_law_1195 rfl rfl ?_
      refine v_iconst (pc := 1196) hR dL_law_1196 rfl ?_
      refine v_iadd (pc := 1197) hR dL_law_1197 ?_
      refine v_chk (fun hc273 => ?_)
      refine v_sld (pc := 1198) hR hc273.1 hc273.2 dL_law_1198 ?_
      refine v_callm1 (pc := 1199) hR (As := [(0, (jsx xs ((w32 (i + 1)))))]) (st := [(0, r271)]) jm_X12_image jl_RL_158 (c_m_image N ((jsx xs ((w32 (i + 1))))) Y) (fun v hv => by simp only [List.mem_cons, List.not_mem_nil, or_false] at hv; rcases hv with rfl <;> rfl) rfl (by decide) (by decide) rfl (Nat.le_of_ble_eq_true rfl) dL_law_1199 (fun r274 M275 => ?_)
      refine v_icmpeq (pc := 1202) (tgt := 1230) hR dL_law_1202 (by decide) ?_ ?_
      · refine v_iinc (pc := 1230) hR (j := 3) (lv' := [(3, 0, (w32 (i + 6))), (0, 4, (b0 : Int)), (1, 4, (gX.2.2 : Int)), (2, 4, (gM.2.2 : Int))]) dL_law_1230 rfl (by decide) rfl ?_
        refine v_goto (pc := 1233) (tgt := 18) hR dL_law_1233 (by decide) ?_
        refine v_pick (pc := 18) (lv' := [(0, 4, (b0 : Int)), (1, 4, (gX.2.2 : Int)), (2, 4, (gM.2.2 : Int)), (3, 0, (w32 (i + 6)))]) hR [1, 2, 3, 0] rfl ?_
        exact hh ((w32 (i + 6)), M272, M275)
      · exact v_iconst (pc := 1205) hR dL_law_1205 rfl (v_ret0 hR)
    refine v_tsw (pc := 33) (tgt := 1207) (j := 35) (y := 35) hR dL_law_33 rfl rfl (by decide) (by decide) ?_ (fun hs276 => ?_)
    · unfold law_C35
      refine v_aload_n (pc := 1207) hR 1 dL_law_1207 rfl rfl ?_
      refine v_aload_n (pc := 1208) hR 0 dL_law_1208 rfl rfl ?_
      refine v_iload_n (pc := 1209) hR 3 dL_law_1209 rfl rfl ?_
      refine v_iconst (pc := 1210) hR dL_law_1210 rfl ?_
      refine v_iadd (pc := 1211) hR dL_law_1211 ?_
      refine v_chk (fun hc277 => ?_)
      refine v_sld (pc := 1212) hR hc277.1 hc277.2 dL_law_1212 ?_
      refine v_callx1 (pc := 1213) hR (As := [(0, (jsx xs ((w32 (i + 1)))))]) (st := []) jm_X11_back jl_RL_159 (c_x_back N ((jsx xs ((w32 (i + 1))))) X) (fun v hv => by simp only [List.mem_cons, List.not_mem_nil, or_false] at hv; rcases hv with rfl <;> rfl) rfl (by decide) (by decide) rfl (Nat.le_of_ble_eq_true rfl) dL_law_1213 (fun r278 M279 => ?_)
      refine v_aload_n (pc := 1216) hR 2 dL_law_1216 rfl rfl ?_
      refine v_aload_n (pc := 1217) hR 0 dL_law_1217 rfl rfl ?_
      refine v_iload_n (pc := 1218) hR 3 dL_law_1218 rfl rfl ?_
      refine v_iconst (pc := 1219) hR dL_law_1219 rfl ?_
      refine v_iadd (pc := 1220) hR dL_law_1220 ?_
      refine v_chk (fun hc280 => ?_)
      refine v_sld (pc := 1221) hR hc280.1 hc280.2 dL_law_1221 ?_
      refine v_callm1 (pc := 1222) hR (As := [(0, (jsx xs ((w32 (i + 1)))))]) (st := [(0, r278)]) jm_X12_back jl_RL_162 (c_m_back N ((jsx xs ((w32 (i + 1))))) Y) (fun v hv => by simp only [List.mem_cons, List.not_mem_nil, or_false] at hv; rcases hv with rfl <;> rfl) rfl (by decide) (by decide) rfl (Nat.le_of_ble_eq_true rfl) dL_law_1222 (fun r281 M282 => ?_)
      refine v_icmpeq (pc := 1225) (tgt := 1230) hR dL_law_1225 (by decide) ?_ ?_
      · refine v_iinc (pc := 1230) hR (j := 3) (lv' := [(3, 0, (w32 (i + 6))), (0, 4, (b0 : Int)), (1, 4, (gX.2.2 : Int)), (2, 4, (gM.2.2 : Int))]) dL_law_1230 rfl (by decide) rfl ?_
        refine v_goto (pc := 1233) (tgt := 18) hR dL_law_1233 (by decide) ?_
        refine v_pick (pc := 18) (lv' := [(0, 4, (b0 : Int)), (1, 4, (gX.2.2 : Int)), (2, 4, (gM.2.2 : Int)), (3, 0, (w32 (i + 6)))]) hR [1, 2, 3, 0] rfl ?_
        exact hh ((w32 (i + 6)), M279, M282)
      · exact v_iconst (pc := 1228) hR dL_law_1228 rfl (v_ret0 hR)
    refine v_tswd (pc := 33) (tgt := 1230) hR dL_law_33 (by omega) (by decide) ?_
    refine v_iinc (pc := 1230) hR (j := 3) (lv' := [(3, 0, (w32 (i + 6))), (0, 4, (b0 : Int)), (1, 4, (gX.2.2 : Int)), (2, 4, (gM.2.2 : Int))]) dL_law_1230 rfl (by decide) rfl ?_
    refine v_goto (pc := 1233) (tgt := 18) hR dL_law_1233 (by decide) ?_
    refine v_pick (pc := 18) (lv' := [(0, 4, (b0 : Int)), (1, 4, (gX.2.2 : Int)), (2, 4, (gM.2.2 : Int)), (3, 0, (w32 (i + 6)))]) hR [1, 2, 3, 0] rfl ?_
    exact hh ((w32 (i + 6)), X, Y)
