set_option maxRecDepth 100000 in
theorem k_pmX5_init : pm_cks pmX5_init pmX5_init.2.2.2.2.2 = true := by decide +kernel
set_option maxRecDepth 100000 in
theorem k_pmX5_begin : pm_cks pmX5_begin pmX5_begin.2.2.2.2.2 = true := by decide +kernel
set_option maxRecDepth 100000 in
theorem k_pmX5_send : pm_cks pmX5_send pmX5_send.2.2.2.2.2 = true := by decide +kernel
set_option maxRecDepth 100000 in
theorem k_pmX5_tick : pm_cks pmX5_tick pmX5_tick.2.2.2.2.2 = true := by decide +kernel
set_option maxRecDepth 100000 in
theorem k_pmX5_comeToB : pm_cks pmX5_comeToB pmX5_comeToB.2.2.2.2.2 = true := by decide +kernel
set_option maxRecDepth 100000 in
theorem k_pmX5_comeToA : pm_cks pmX5_comeToA pmX5_comeToA.2.2.2.2.2 = true := by decide +kernel
set_option maxRecDepth 100000 in
theorem k_pmX5_lose : pm_cks pmX5_lose pmX5_lose.2.2.2.2.2 = true := by decide +kernel
set_option maxRecDepth 100000 in
theorem k_pmX5_change : pm_cks pmX5_change pmX5_change.2.2.2.2.2 = true := by decide +kernel
set_option maxRecDepth 100000 in
theorem k_pmX5_twice : pm_cks pmX5_twice pmX5_twice.2.2.2.2.2 = true := by decide +kernel
set_option maxRecDepth 100000 in
theorem k_pmX5_delay : pm_cks pmX5_delay pmX5_delay.2.2.2.2.2 = true := by decide +kernel
set_option maxRecDepth 100000 in
theorem k_pmX5_delivered : pm_cks pmX5_delivered pmX5_delivered.2.2.2.2.2 = true := by decide +kernel
set_option maxRecDepth 100000 in
theorem k_pmX5_word : pm_cks pmX5_word pmX5_word.2.2.2.2.2 = true := by decide +kernel
set_option maxRecDepth 100000 in
theorem k_pmX5_frame : pm_cks pmX5_frame pmX5_frame.2.2.2.2.2 = true := by decide +kernel
set_option maxRecDepth 100000 in
theorem k_pmX5_told : pm_cks pmX5_told pmX5_told.2.2.2.2.2 = true := by decide +kernel
set_option maxRecDepth 100000 in
theorem k_pmX5_sum : pm_cks pmX5_sum pmX5_sum.2.2.2.2.2 = true := by decide +kernel
set_option maxRecDepth 100000 in
theorem k_pmX5_restart : pm_cks pmX5_restart pmX5_restart.2.2.2.2.2 = true := by decide +kernel
set_option maxRecDepth 100000 in
theorem k_pmX5_wireOf : pm_cks pmX5_wireOf pmX5_wireOf.2.2.2.2.2 = true := by decide +kernel
set_option maxRecDepth 100000 in
theorem k_pmX5_isWithin : pm_cks pmX5_isWithin pmX5_isWithin.2.2.2.2.2 = true := by decide +kernel
