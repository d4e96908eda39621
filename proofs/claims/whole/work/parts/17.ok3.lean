set_option maxRecDepth 100000 in
theorem k_pmX6_init : pm_cks pmX6_init pmX6_init.2.2.2.2.2 = true := by decide +kernel
set_option maxRecDepth 100000 in
theorem k_pmX6_thrown : pm_cks pmX6_thrown pmX6_thrown.2.2.2.2.2 = true := by decide +kernel
set_option maxRecDepth 100000 in
theorem k_pmX6_begin : pm_cks pmX6_begin pmX6_begin.2.2.2.2.2 = true := by decide +kernel
set_option maxRecDepth 100000 in
theorem k_pmX6_crc : pm_cks pmX6_crc pmX6_crc.2.2.2.2.2 = true := by decide +kernel
set_option maxRecDepth 100000 in
theorem k_pmX6_sum : pm_cks pmX6_sum pmX6_sum.2.2.2.2.2 = true := by decide +kernel
set_option maxRecDepth 100000 in
theorem k_pmX6_at : pm_cks pmX6_at pmX6_at.2.2.2.2.2 = true := by decide +kernel
set_option maxRecDepth 100000 in
theorem k_pmX6_bytesAt : pm_cks pmX6_bytesAt pmX6_bytesAt.2.2.2.2.2 = true := by decide +kernel
set_option maxRecDepth 100000 in
theorem k_pmX6_put : pm_cks pmX6_put pmX6_put.2.2.2.2.2 = true := by decide +kernel
set_option maxRecDepth 100000 in
theorem k_pmX6_drop : pm_cks pmX6_drop pmX6_drop.2.2.2.2.2 = true := by decide +kernel
set_option maxRecDepth 100000 in
theorem k_pmX6_isGood : pm_cks pmX6_isGood pmX6_isGood.2.2.2.2.2 = true := by decide +kernel
set_option maxRecDepth 100000 in
theorem k_pmX6_far : pm_cks pmX6_far pmX6_far.2.2.2.2.2 = true := by decide +kernel
set_option maxRecDepth 100000 in
theorem k_pmX6_send : pm_cks pmX6_send pmX6_send.2.2.2.2.2 = true := by decide +kernel
set_option maxRecDepth 100000 in
theorem k_pmX6_tick : pm_cks pmX6_tick pmX6_tick.2.2.2.2.2 = true := by decide +kernel
set_option maxRecDepth 100000 in
theorem k_pmX6_hear : pm_cks pmX6_hear pmX6_hear.2.2.2.2.2 = true := by decide +kernel
set_option maxRecDepth 100000 in
theorem k_pmX6_comeToA : pm_cks pmX6_comeToA pmX6_comeToA.2.2.2.2.2 = true := by decide +kernel
set_option maxRecDepth 100000 in
theorem k_pmX6_comeToB : pm_cks pmX6_comeToB pmX6_comeToB.2.2.2.2.2 = true := by decide +kernel
set_option maxRecDepth 100000 in
theorem k_pmX6_noWire : pm_cks pmX6_noWire pmX6_noWire.2.2.2.2.2 = true := by decide +kernel
set_option maxRecDepth 100000 in
theorem k_pmX6_lose : pm_cks pmX6_lose pmX6_lose.2.2.2.2.2 = true := by decide +kernel
set_option maxRecDepth 100000 in
theorem k_pmX6_change : pm_cks pmX6_change pmX6_change.2.2.2.2.2 = true := by decide +kernel
set_option maxRecDepth 100000 in
theorem k_pmX6_twice : pm_cks pmX6_twice pmX6_twice.2.2.2.2.2 = true := by decide +kernel
set_option maxRecDepth 100000 in
theorem k_pmX6_delay : pm_cks pmX6_delay pmX6_delay.2.2.2.2.2 = true := by decide +kernel
set_option maxRecDepth 100000 in
theorem k_pmX6_delivered : pm_cks pmX6_delivered pmX6_delivered.2.2.2.2.2 = true := by decide +kernel
set_option maxRecDepth 100000 in
theorem k_pmX6_word : pm_cks pmX6_word pmX6_word.2.2.2.2.2 = true := by decide +kernel
set_option maxRecDepth 100000 in
theorem k_pmX6_frame : pm_cks pmX6_frame pmX6_frame.2.2.2.2.2 = true := by decide +kernel
set_option maxRecDepth 100000 in
theorem k_pmX6_told : pm_cks pmX6_told pmX6_told.2.2.2.2.2 = true := by decide +kernel
