theorem xm_L_91 : Cond.methodLink RL 91 yL_cell ∈ WT := wt_in 185 (by decide +kernel) (by decide +kernel)
theorem xc_L_change : Cond.code yL_change cL_change 6 (some .int) ∈ WT := wt_in 195 (by decide +kernel) (by decide +kernel)
theorem xs_L_change : Cond.static yL_change ∈ WT := wt_in 194 (by decide +kernel) (by decide +kernel)
theorem xm_L_95 : Cond.methodLink RL 95 yL_change ∈ WT := wt_in 193 (by decide +kernel) (by decide +kernel)
theorem xc_L_isSound : Cond.code yL_isSound cL_isSound 10 (some .boolean) ∈ WT := wt_in 394 (by decide +kernel) (by decide +kernel)
theorem xs_L_isSound : Cond.static yL_isSound ∈ WT := wt_in 393 (by decide +kernel) (by decide +kernel)
theorem xm_L_99 : Cond.methodLink RL 99 yL_isSound ∈ WT := wt_in 392 (by decide +kernel) (by decide +kernel)
theorem xc_L_isRoute : Cond.code yL_isRoute cL_isRoute 8 (some .boolean) ∈ WT := wt_in 444 (by decide +kernel) (by decide +kernel)
theorem xs_L_isRoute : Cond.static yL_isRoute ∈ WT := wt_in 443 (by decide +kernel) (by decide +kernel)
theorem xm_L_103 : Cond.methodLink RL 103 yL_isRoute ∈ WT := wt_in 442 (by decide +kernel) (by decide +kernel)
theorem xc_L_areMeasures : Cond.code yL_areMeasures cL_areMeasures 7 (some .boolean) ∈ WT := wt_in 475 (by decide +kernel) (by decide +kernel)
theorem xs_L_areMeasures : Cond.static yL_areMeasures ∈ WT := wt_in 474 (by decide +kernel) (by decide +kernel)
theorem xm_L_107 : Cond.methodLink RL 107 yL_areMeasures ∈ WT := wt_in 473 (by decide +kernel) (by decide +kernel)
theorem xc_L_areAlike : Cond.code yL_areAlike cL_areAlike 5 (some .boolean) ∈ WT := wt_in 513 (by decide +kernel) (by decide +kernel)
theorem xs_L_areAlike : Cond.static yL_areAlike ∈ WT := wt_in 512 (by decide +kernel) (by decide +kernel)
theorem xm_L_110 : Cond.methodLink RL 110 yL_areAlike ∈ WT := wt_in 511 (by decide +kernel) (by decide +kernel)
theorem xc_X2_init : Cond.code yX2_init cX2_init 1 none ∈ WT := wt_in 29 (by decide +kernel) (by decide +kernel)
theorem xi_X2_init : Cond.instanceMethod yX2_init ∈ WT := wt_in 28 (by decide +kernel) (by decide +kernel)
theorem xm_L_90 : Cond.methodLink RL 90 yX2_init ∈ WT := wt_in 27 (by decide +kernel) (by decide +kernel)
theorem xl_L_10 : Cond.classLink RL 10 RX2 ∈ WT := wt_in 25 (by decide +kernel) (by decide +kernel)
theorem xt_X2 : Cond.instantiable RX2 5 ∈ WT := wt_in 26 (by decide +kernel) (by decide +kernel)
theorem hd_L_areAlike : yL_areAlike.cls ≠ "java/lang/invoke/MethodHandle" ∧ yL_areAlike.cls ≠ "java/lang/invoke/VarHandle" ∧ (parseMethodDescriptor yL_areAlike.desc).map (fun d => d.parameters.length) = some 2 := by decide +kernel
theorem hd_L_areMeasures : yL_areMeasures.cls ≠ "java/lang/invoke/MethodHandle" ∧ yL_areMeasures.cls ≠ "java/lang/invoke/VarHandle" ∧ (parseMethodDescriptor yL_areMeasures.desc).map (fun d => d.parameters.length) = some 1 := by decide +kernel
theorem hd_L_change : yL_change.cls ≠ "java/lang/invoke/MethodHandle" ∧ yL_change.cls ≠ "java/lang/invoke/VarHandle" ∧ (parseMethodDescriptor yL_change.desc).map (fun d => d.parameters.length) = some 3 := by decide +kernel
theorem hd_L_isRoute : yL_isRoute.cls ≠ "java/lang/invoke/MethodHandle" ∧ yL_isRoute.cls ≠ "java/lang/invoke/VarHandle" ∧ (parseMethodDescriptor yL_isRoute.desc).map (fun d => d.parameters.length) = some 3 := by decide +kernel
theorem hd_L_isSound : yL_isSound.cls ≠ "java/lang/invoke/MethodHandle" ∧ yL_isSound.cls ≠ "java/lang/invoke/VarHandle" ∧ (parseMethodDescriptor yL_isSound.desc).map (fun d => d.parameters.length) = some 1 := by decide +kernel
theorem hd_X2_init : yX2_init.cls ≠ "java/lang/invoke/MethodHandle" ∧ yX2_init.cls ≠ "java/lang/invoke/VarHandle" ∧ (parseMethodDescriptor yX2_init.desc).map (fun d => d.parameters.length) = some 0 := by decide +kernel
