/-! the words of the throw stand in the tables -/
section ZW
set_option maxRecDepth 20000 in
theorem wEx_t : ∀ w ∈ wEx, w ∈ lw_tbl := by decide +kernel
end ZW
