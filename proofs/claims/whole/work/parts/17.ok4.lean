set_option maxRecDepth 100000 in
theorem k_pmL_begin : pm_cks pmL_begin pmL_begin.2.2.2.2.2 = true := by decide +kernel
set_option maxRecDepth 100000 in
theorem k_pmL_lose : pm_cks pmL_lose pmL_lose.2.2.2.2.2 = true := by decide +kernel
set_option maxRecDepth 100000 in
theorem k_pmL_change : pm_cks pmL_change pmL_change.2.2.2.2.2 = true := by decide +kernel
set_option maxRecDepth 100000 in
theorem k_pmL_twice : pm_cks pmL_twice pmL_twice.2.2.2.2.2 = true := by decide +kernel
set_option maxRecDepth 100000 in
theorem k_pmL_delay : pm_cks pmL_delay pmL_delay.2.2.2.2.2 = true := by decide +kernel
set_option maxRecDepth 100000 in
theorem k_pmL_word : pm_cks pmL_word pmL_word.2.2.2.2.2 = true := by decide +kernel
set_option maxRecDepth 100000 in
theorem k_pmL_frame : pm_cks pmL_frame pmL_frame.2.2.2.2.2 = true := by decide +kernel
set_option maxRecDepth 100000 in
theorem k_pmL_told : pm_cks pmL_told pmL_told.2.2.2.2.2 = true := by decide +kernel
