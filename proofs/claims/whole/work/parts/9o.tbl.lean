/-! the throws' words stand in the tables -/
theorem xT1_tbl : ∀ w ∈ xT1, w ∈ lw_tbl := by decide +kernel
theorem xT2_tbl : ∀ w ∈ xT2, w ∈ lw_tbl := by decide +kernel
theorem xT3_tbl : ∀ w ∈ xT3, w ∈ lw_tbl := by decide +kernel
